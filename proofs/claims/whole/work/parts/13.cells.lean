/-! ===== the cells of both sides, words by their places ===== -/
def layCL : List (Nat × Nat) := [(0, 0), (19, 15), (18, 7), (4, 1000), (10, 16), (13, 2), (2, 7), (13, 2), (2, 5), (13, 2), (2, 3), (13, 2), (2, 6), (1, 7), (1, 7), (1, 5), (1, 5), (1, 3), (1, 3), (1, 6), (1, 6), (1, 12), (11, 3), (1, 1000), (1, 32), (10, 16), (13, 2), (2, 7), (13, 2), (2, 5), (13, 2), (2, 3), (13, 2), (2, 6), (1, 7), (1, 7), (1, 5), (1, 5), (1, 3), (1, 3), (1, 6), (1, 6), (1, 12), (11, 3), (1, 1000), (1, 32), (16, 4), (1, 40), (1, 40), (1, 40), (16, 4), (1, 40), (1, 40), (1, 40), (17, 6), (1, 7), (1, 5), (1, 3), (1, 3), (1, 6), (17, 6), (1, 7), (1, 5), (1, 3), (1, 3), (1, 6), (15, 4), (1, 8), (1, 8), (3, 8), (14, 9), (17, 6), (1, 7), (1, 5), (1, 3), (1, 3), (1, 6), (1, 427), (1, 305), (1, 61), (1, 18), (1, 3), (5, 16), (6, 4), (1, 10), (17, 6), (1, 7), (1, 5), (1, 3), (1, 3), (1, 6), (17, 6), (1, 7), (1, 5), (1, 3), (1, 3), (1, 6), (17, 6), (1, 7), (1, 5), (1, 3), (1, 3), (1, 6), (17, 6), (1, 7), (1, 5), (1, 3), (1, 3), (1, 6), (17, 6), (1, 7), (1, 5), (1, 3), (1, 3), (1, 6), (17, 6), (1, 7), (1, 5), (1, 3), (1, 3), (1, 6), (17, 6), (1, 7), (1, 5), (1, 3), (1, 3), (1, 6), (17, 6), (1, 7), (1, 5), (1, 3), (1, 3), (1, 6), (17, 6), (1, 7), (1, 5), (1, 3), (1, 3), (1, 6), (17, 6), (1, 7), (1, 5), (1, 3), (1, 3), (1, 6), (17, 6), (1, 7), (1, 5), (1, 3), (1, 3), (1, 6), (17, 6), (1, 7), (1, 5), (1, 3), (1, 3), (1, 6), (17, 6), (1, 7), (1, 5), (1, 3), (1, 3), (1, 6), (17, 6), (1, 7), (1, 5), (1, 3), (1, 3), (1, 6), (17, 6), (1, 7), (1, 5), (1, 3), (1, 3), (1, 6), (17, 6), (1, 7), (1, 5), (1, 3), (1, 3), (1, 6), (12, 4), (17, 6), (1, 7), (1, 5), (1, 3), (1, 3), (1, 6), (16, 4), (1, 40), (1, 40), (1, 40), (15, 4), (1, 8), (1, 8), (3, 8), (12, 4), (17, 6), (1, 7), (1, 5), (1, 3), (1, 3), (1, 6), (16, 4), (1, 40), (1, 40), (1, 40), (15, 4), (1, 8), (1, 8), (3, 8), (12, 4), (17, 6), (1, 7), (1, 5), (1, 3), (1, 3), (1, 6), (16, 4), (1, 40), (1, 40), (1, 40), (15, 4), (1, 8), (1, 8), (3, 8), (12, 4), (17, 6), (1, 7), (1, 5), (1, 3), (1, 3), (1, 6), (16, 4), (1, 40), (1, 40), (1, 40), (15, 4), (1, 8), (1, 8), (3, 8)]
def layML : List (Nat × Nat) := [(0, 0), (20, 67), (1, 1000), (1, 12), (2, 14), (2, 10), (2, 6), (2, 12), (1, 14), (1, 14), (1, 10), (1, 10), (1, 6), (1, 6), (1, 12), (1, 12), (1, 24), (1, 2), (1, 2), (1, 2000), (1, 7), (3, 7), (1, 7), (1, 7), (1, 7), (1, 7), (1, 7), (1, 7), (1, 7), (1, 7), (1, 7), (1, 20), (1, 6), (1, 240), (1, 240), (1, 240), (1, 5), (1, 40), (1, 40), (3, 40), (1, 25), (1, 25), (1, 25), (1, 100), (1, 400), (3, 4), (1, 7), (1, 18), (1, 3), (1, 3), (1, 70)]
def layC (a : Nat) : Nat × Nat := layCL.getD a (0, 0)
def layM (a : Nat) : Nat × Nat := layML.getD a (0, 0)
/-- where a final reference points, from its cell on; 0: it is read -/
def rfo (kd k : Nat) : Nat := match kd with
  | 10 => ([1, 3, 5, 7, 9, 10, 11, 12, 13, 14, 15, 16, 17, 18] : List Nat).getD k 0
  | 11 => ([1, 2] : List Nat).getD k 0
  | 12 => ([1, 7, 11] : List Nat).getD k 0
  | 13 => ([1] : List Nat).getD k 0
  | 14 => ([1, 7, 8, 9, 10, 11] : List Nat).getD k 0
  | 15 => ([1, 2, 3] : List Nat).getD k 0
  | 16 => ([1, 2, 3] : List Nat).getD k 0
  | 17 => ([1, 2, 3, 4, 5] : List Nat).getD k 0
  | 18 => ([1] : List Nat).getD k 0
  | 19 => ([1, 0, 0, 0, 0, 53, 59, 65, 69, 81, 82, 83] : List Nat).getD k 0
  | 20 => ([0, 0, 1, 0, 0, 0, 0, 0, 0, 0, 2, 3, 4, 5, 6, 7, 8, 9, 10, 11, 12, 13, 14, 15, 16, 17, 18, 0, 19, 20, 21, 22, 23, 24, 25, 26, 27, 28, 29, 30, 0, 0, 31, 32, 33, 34, 35, 36, 37, 38, 39, 40, 41, 42, 43, 44, 0, 45, 0, 0, 46, 47, 48, 0, 0, 49] : List Nat).getD k 0
  | 5 => 3 + 6 * k
  | 6 => 98 + 15 * k
  | _ => 0
def rfC (r : Nat → Nat → Nat) (a k : Nat) : Nat := if rfo (layC a).1 k = 0 then r a k else a + rfo (layC a).1 k
def rfM (r : Nat → Nat → Nat) (a k : Nat) : Nat := if rfo (layM a).1 k = 0 then r a k else a + rfo (layM a).1 k
theorem rfC_off {r : Nat → Nat → Nat} {a k kd n off : Nat} (h : layC a = (kd, n)) (ho : rfo kd k = off) (h0 : off ≠ 0) : rfC r a k = a + off := by
  unfold rfC; rw [h]; simp only [ho, if_neg h0]
theorem rfC_put {u : zM} {k x : Nat} (h : rfo 19 k = 0) : ∀ y j, rfC (sR u 1 k x).2.2.1 y j = if y = 1 ∧ j = k then x else rfC u.2.2.1 y j := by
  intro y j
  unfold rfC
  by_cases hy : y = 1 ∧ j = k
  · obtain ⟨rfl, rfl⟩ := hy
    have e : rfo (layC 1).1 j = 0 := h
    rw [if_pos e, if_pos ⟨rfl, rfl⟩]
    show (if (1 : Nat) = 1 ∧ j = j then x else u.2.2.1 1 j) = x
    rw [if_pos ⟨rfl, rfl⟩]
  · rw [if_neg hy]
    by_cases e : rfo (layC y).1 j = 0
    · rw [if_pos e, if_pos e]
      show (if y = 1 ∧ j = k then x else u.2.2.1 y j) = u.2.2.1 y j
      rw [if_neg hy]
    · rw [if_neg e, if_neg e]
theorem layC_lt {a k n : Nat} (h : layC a = (k + 1, n)) : 1 ≤ a ∧ a ≤ 240 := by
  have h2 : a < layCL.length := by
    rcases Nat.lt_or_ge a layCL.length with q | q
    · exact q
    · unfold layC at h
      rw [List.getD_eq_getElem?_getD, List.getElem?_eq_none q] at h
      cases h
  refine ⟨?_, Nat.lt_succ_iff.mp h2⟩
  rcases Nat.eq_zero_or_pos a with rfl | q
  · cases h
  · exact q
theorem layM_lt {a k n : Nat} (h : layM a = (k + 1, n)) : 1 ≤ a ∧ a ≤ 50 := by
  have h2 : a < layML.length := by
    rcases Nat.lt_or_ge a layML.length with q | q
    · exact q
    · unfold layM at h
      rw [List.getD_eq_getElem?_getD, List.getElem?_eq_none q] at h
      cases h
  refine ⟨?_, Nat.lt_succ_iff.mp h2⟩
  rcases Nat.eq_zero_or_pos a with rfl | q
  · cases h
  · exact q
abbrev wC (D : zD) (b : Nat) : zWd := (D, b, layC, rfC, 240, false)
abbrev wM (D : zD) (b : Nat) : zWd := (D, b, layM, rfM, 50, false)
theorem zkC {a k n : Nat} {u : zM} (h : layC a = (k + 1, n)) : zok (240, false) u a := ⟨(layC_lt h).1, Or.inl (layC_lt h).2⟩
theorem zkM {a k n : Nat} {u : zM} (h : layM a = (k + 1, n)) : zok (50, false) u a := ⟨(layM_lt h).1, Or.inl (layM_lt h).2⟩
theorem lC_pos {a k n : Nat} (h : layC a = (k + 1, n)) : 1 ≤ a := (layC_lt h).1
theorem lyC {a k : Nat} (h : (layC a).1 = k) : layC a = (k, (layC a).2) := by rw [← h]
theorem lyM {a k : Nat} (h : (layM a).1 = k) : layM a = (k, (layM a).2) := by rw [← h]
theorem lC1 : layC 1 = (19, 15) := rfl
theorem lC2 : layC 2 = (18, 7) := rfl
theorem lC3 : layC 3 = (4, 1000) := rfl
theorem lC4 : layC 4 = (10, 16) := rfl
theorem lC5 : layC 5 = (13, 2) := rfl
theorem lC6 : layC 6 = (2, 7) := rfl
theorem lC7 : layC 7 = (13, 2) := rfl
theorem lC8 : layC 8 = (2, 5) := rfl
theorem lC9 : layC 9 = (13, 2) := rfl
theorem lC10 : layC 10 = (2, 3) := rfl
theorem lC11 : layC 11 = (13, 2) := rfl
theorem lC12 : layC 12 = (2, 6) := rfl
theorem lC13 : layC 13 = (1, 7) := rfl
theorem lC14 : layC 14 = (1, 7) := rfl
theorem lC15 : layC 15 = (1, 5) := rfl
theorem lC16 : layC 16 = (1, 5) := rfl
theorem lC17 : layC 17 = (1, 3) := rfl
theorem lC18 : layC 18 = (1, 3) := rfl
theorem lC19 : layC 19 = (1, 6) := rfl
theorem lC20 : layC 20 = (1, 6) := rfl
theorem lC21 : layC 21 = (1, 12) := rfl
theorem lC22 : layC 22 = (11, 3) := rfl
theorem lC23 : layC 23 = (1, 1000) := rfl
theorem lC24 : layC 24 = (1, 32) := rfl
theorem lC25 : layC 25 = (10, 16) := rfl
theorem lC26 : layC 26 = (13, 2) := rfl
theorem lC27 : layC 27 = (2, 7) := rfl
theorem lC28 : layC 28 = (13, 2) := rfl
theorem lC29 : layC 29 = (2, 5) := rfl
theorem lC30 : layC 30 = (13, 2) := rfl
theorem lC31 : layC 31 = (2, 3) := rfl
theorem lC32 : layC 32 = (13, 2) := rfl
theorem lC33 : layC 33 = (2, 6) := rfl
theorem lC34 : layC 34 = (1, 7) := rfl
theorem lC35 : layC 35 = (1, 7) := rfl
theorem lC36 : layC 36 = (1, 5) := rfl
theorem lC37 : layC 37 = (1, 5) := rfl
theorem lC38 : layC 38 = (1, 3) := rfl
theorem lC39 : layC 39 = (1, 3) := rfl
theorem lC40 : layC 40 = (1, 6) := rfl
theorem lC41 : layC 41 = (1, 6) := rfl
theorem lC42 : layC 42 = (1, 12) := rfl
theorem lC43 : layC 43 = (11, 3) := rfl
theorem lC44 : layC 44 = (1, 1000) := rfl
theorem lC45 : layC 45 = (1, 32) := rfl
theorem lC46 : layC 46 = (16, 4) := rfl
theorem lC47 : layC 47 = (1, 40) := rfl
theorem lC48 : layC 48 = (1, 40) := rfl
theorem lC49 : layC 49 = (1, 40) := rfl
theorem lC50 : layC 50 = (16, 4) := rfl
theorem lC51 : layC 51 = (1, 40) := rfl
theorem lC52 : layC 52 = (1, 40) := rfl
theorem lC53 : layC 53 = (1, 40) := rfl
theorem lC54 : layC 54 = (17, 6) := rfl
theorem lC55 : layC 55 = (1, 7) := rfl
theorem lC56 : layC 56 = (1, 5) := rfl
theorem lC57 : layC 57 = (1, 3) := rfl
theorem lC58 : layC 58 = (1, 3) := rfl
theorem lC59 : layC 59 = (1, 6) := rfl
theorem lC60 : layC 60 = (17, 6) := rfl
theorem lC61 : layC 61 = (1, 7) := rfl
theorem lC62 : layC 62 = (1, 5) := rfl
theorem lC63 : layC 63 = (1, 3) := rfl
theorem lC64 : layC 64 = (1, 3) := rfl
theorem lC65 : layC 65 = (1, 6) := rfl
theorem lC66 : layC 66 = (15, 4) := rfl
theorem lC67 : layC 67 = (1, 8) := rfl
theorem lC68 : layC 68 = (1, 8) := rfl
theorem lC69 : layC 69 = (3, 8) := rfl
theorem lC70 : layC 70 = (14, 9) := rfl
theorem lC71 : layC 71 = (17, 6) := rfl
theorem lC72 : layC 72 = (1, 7) := rfl
theorem lC73 : layC 73 = (1, 5) := rfl
theorem lC74 : layC 74 = (1, 3) := rfl
theorem lC75 : layC 75 = (1, 3) := rfl
theorem lC76 : layC 76 = (1, 6) := rfl
theorem lC77 : layC 77 = (1, 427) := rfl
theorem lC78 : layC 78 = (1, 305) := rfl
theorem lC79 : layC 79 = (1, 61) := rfl
theorem lC80 : layC 80 = (1, 18) := rfl
theorem lC81 : layC 81 = (1, 3) := rfl
theorem lC82 : layC 82 = (5, 16) := rfl
theorem lC83 : layC 83 = (6, 4) := rfl
theorem lC84 : layC 84 = (1, 10) := rfl
theorem lC85 : layC 85 = (17, 6) := rfl
theorem lC86 : layC 86 = (1, 7) := rfl
theorem lC87 : layC 87 = (1, 5) := rfl
theorem lC88 : layC 88 = (1, 3) := rfl
theorem lC89 : layC 89 = (1, 3) := rfl
theorem lC90 : layC 90 = (1, 6) := rfl
theorem lC91 : layC 91 = (17, 6) := rfl
theorem lC92 : layC 92 = (1, 7) := rfl
theorem lC93 : layC 93 = (1, 5) := rfl
theorem lC94 : layC 94 = (1, 3) := rfl
theorem lC95 : layC 95 = (1, 3) := rfl
theorem lC96 : layC 96 = (1, 6) := rfl
theorem lC97 : layC 97 = (17, 6) := rfl
theorem lC98 : layC 98 = (1, 7) := rfl
theorem lC99 : layC 99 = (1, 5) := rfl
theorem lC100 : layC 100 = (1, 3) := rfl
theorem lC101 : layC 101 = (1, 3) := rfl
theorem lC102 : layC 102 = (1, 6) := rfl
theorem lC103 : layC 103 = (17, 6) := rfl
theorem lC104 : layC 104 = (1, 7) := rfl
theorem lC105 : layC 105 = (1, 5) := rfl
theorem lC106 : layC 106 = (1, 3) := rfl
theorem lC107 : layC 107 = (1, 3) := rfl
theorem lC108 : layC 108 = (1, 6) := rfl
theorem lC109 : layC 109 = (17, 6) := rfl
theorem lC110 : layC 110 = (1, 7) := rfl
theorem lC111 : layC 111 = (1, 5) := rfl
theorem lC112 : layC 112 = (1, 3) := rfl
theorem lC113 : layC 113 = (1, 3) := rfl
theorem lC114 : layC 114 = (1, 6) := rfl
theorem lC115 : layC 115 = (17, 6) := rfl
theorem lC116 : layC 116 = (1, 7) := rfl
theorem lC117 : layC 117 = (1, 5) := rfl
theorem lC118 : layC 118 = (1, 3) := rfl
theorem lC119 : layC 119 = (1, 3) := rfl
theorem lC120 : layC 120 = (1, 6) := rfl
theorem lC121 : layC 121 = (17, 6) := rfl
theorem lC122 : layC 122 = (1, 7) := rfl
theorem lC123 : layC 123 = (1, 5) := rfl
theorem lC124 : layC 124 = (1, 3) := rfl
theorem lC125 : layC 125 = (1, 3) := rfl
theorem lC126 : layC 126 = (1, 6) := rfl
theorem lC127 : layC 127 = (17, 6) := rfl
theorem lC128 : layC 128 = (1, 7) := rfl
theorem lC129 : layC 129 = (1, 5) := rfl
theorem lC130 : layC 130 = (1, 3) := rfl
theorem lC131 : layC 131 = (1, 3) := rfl
theorem lC132 : layC 132 = (1, 6) := rfl
theorem lC133 : layC 133 = (17, 6) := rfl
theorem lC134 : layC 134 = (1, 7) := rfl
theorem lC135 : layC 135 = (1, 5) := rfl
theorem lC136 : layC 136 = (1, 3) := rfl
theorem lC137 : layC 137 = (1, 3) := rfl
theorem lC138 : layC 138 = (1, 6) := rfl
theorem lC139 : layC 139 = (17, 6) := rfl
theorem lC140 : layC 140 = (1, 7) := rfl
theorem lC141 : layC 141 = (1, 5) := rfl
theorem lC142 : layC 142 = (1, 3) := rfl
theorem lC143 : layC 143 = (1, 3) := rfl
theorem lC144 : layC 144 = (1, 6) := rfl
theorem lC145 : layC 145 = (17, 6) := rfl
theorem lC146 : layC 146 = (1, 7) := rfl
theorem lC147 : layC 147 = (1, 5) := rfl
theorem lC148 : layC 148 = (1, 3) := rfl
theorem lC149 : layC 149 = (1, 3) := rfl
theorem lC150 : layC 150 = (1, 6) := rfl
theorem lC151 : layC 151 = (17, 6) := rfl
theorem lC152 : layC 152 = (1, 7) := rfl
theorem lC153 : layC 153 = (1, 5) := rfl
theorem lC154 : layC 154 = (1, 3) := rfl
theorem lC155 : layC 155 = (1, 3) := rfl
theorem lC156 : layC 156 = (1, 6) := rfl
theorem lC157 : layC 157 = (17, 6) := rfl
theorem lC158 : layC 158 = (1, 7) := rfl
theorem lC159 : layC 159 = (1, 5) := rfl
theorem lC160 : layC 160 = (1, 3) := rfl
theorem lC161 : layC 161 = (1, 3) := rfl
theorem lC162 : layC 162 = (1, 6) := rfl
theorem lC163 : layC 163 = (17, 6) := rfl
theorem lC164 : layC 164 = (1, 7) := rfl
theorem lC165 : layC 165 = (1, 5) := rfl
theorem lC166 : layC 166 = (1, 3) := rfl
theorem lC167 : layC 167 = (1, 3) := rfl
theorem lC168 : layC 168 = (1, 6) := rfl
theorem lC169 : layC 169 = (17, 6) := rfl
theorem lC170 : layC 170 = (1, 7) := rfl
theorem lC171 : layC 171 = (1, 5) := rfl
theorem lC172 : layC 172 = (1, 3) := rfl
theorem lC173 : layC 173 = (1, 3) := rfl
theorem lC174 : layC 174 = (1, 6) := rfl
theorem lC175 : layC 175 = (17, 6) := rfl
theorem lC176 : layC 176 = (1, 7) := rfl
theorem lC177 : layC 177 = (1, 5) := rfl
theorem lC178 : layC 178 = (1, 3) := rfl
theorem lC179 : layC 179 = (1, 3) := rfl
theorem lC180 : layC 180 = (1, 6) := rfl
theorem lC181 : layC 181 = (12, 4) := rfl
theorem lC182 : layC 182 = (17, 6) := rfl
theorem lC183 : layC 183 = (1, 7) := rfl
theorem lC184 : layC 184 = (1, 5) := rfl
theorem lC185 : layC 185 = (1, 3) := rfl
theorem lC186 : layC 186 = (1, 3) := rfl
theorem lC187 : layC 187 = (1, 6) := rfl
theorem lC188 : layC 188 = (16, 4) := rfl
theorem lC189 : layC 189 = (1, 40) := rfl
theorem lC190 : layC 190 = (1, 40) := rfl
theorem lC191 : layC 191 = (1, 40) := rfl
theorem lC192 : layC 192 = (15, 4) := rfl
theorem lC193 : layC 193 = (1, 8) := rfl
theorem lC194 : layC 194 = (1, 8) := rfl
theorem lC195 : layC 195 = (3, 8) := rfl
theorem lC196 : layC 196 = (12, 4) := rfl
theorem lC197 : layC 197 = (17, 6) := rfl
theorem lC198 : layC 198 = (1, 7) := rfl
theorem lC199 : layC 199 = (1, 5) := rfl
theorem lC200 : layC 200 = (1, 3) := rfl
theorem lC201 : layC 201 = (1, 3) := rfl
theorem lC202 : layC 202 = (1, 6) := rfl
theorem lC203 : layC 203 = (16, 4) := rfl
theorem lC204 : layC 204 = (1, 40) := rfl
theorem lC205 : layC 205 = (1, 40) := rfl
theorem lC206 : layC 206 = (1, 40) := rfl
theorem lC207 : layC 207 = (15, 4) := rfl
theorem lC208 : layC 208 = (1, 8) := rfl
theorem lC209 : layC 209 = (1, 8) := rfl
theorem lC210 : layC 210 = (3, 8) := rfl
theorem lC211 : layC 211 = (12, 4) := rfl
theorem lC212 : layC 212 = (17, 6) := rfl
theorem lC213 : layC 213 = (1, 7) := rfl
theorem lC214 : layC 214 = (1, 5) := rfl
theorem lC215 : layC 215 = (1, 3) := rfl
theorem lC216 : layC 216 = (1, 3) := rfl
theorem lC217 : layC 217 = (1, 6) := rfl
theorem lC218 : layC 218 = (16, 4) := rfl
theorem lC219 : layC 219 = (1, 40) := rfl
theorem lC220 : layC 220 = (1, 40) := rfl
theorem lC221 : layC 221 = (1, 40) := rfl
theorem lC222 : layC 222 = (15, 4) := rfl
theorem lC223 : layC 223 = (1, 8) := rfl
theorem lC224 : layC 224 = (1, 8) := rfl
theorem lC225 : layC 225 = (3, 8) := rfl
theorem lC226 : layC 226 = (12, 4) := rfl
theorem lC227 : layC 227 = (17, 6) := rfl
theorem lC228 : layC 228 = (1, 7) := rfl
theorem lC229 : layC 229 = (1, 5) := rfl
theorem lC230 : layC 230 = (1, 3) := rfl
theorem lC231 : layC 231 = (1, 3) := rfl
theorem lC232 : layC 232 = (1, 6) := rfl
theorem lC233 : layC 233 = (16, 4) := rfl
theorem lC234 : layC 234 = (1, 40) := rfl
theorem lC235 : layC 235 = (1, 40) := rfl
theorem lC236 : layC 236 = (1, 40) := rfl
theorem lC237 : layC 237 = (15, 4) := rfl
theorem lC238 : layC 238 = (1, 8) := rfl
theorem lC239 : layC 239 = (1, 8) := rfl
theorem lC240 : layC 240 = (3, 8) := rfl
theorem lM1 : layM 1 = (20, 67) := rfl
theorem lM2 : layM 2 = (1, 1000) := rfl
theorem lM3 : layM 3 = (1, 12) := rfl
theorem lM4 : layM 4 = (2, 14) := rfl
theorem lM5 : layM 5 = (2, 10) := rfl
theorem lM6 : layM 6 = (2, 6) := rfl
theorem lM7 : layM 7 = (2, 12) := rfl
theorem lM8 : layM 8 = (1, 14) := rfl
theorem lM9 : layM 9 = (1, 14) := rfl
theorem lM10 : layM 10 = (1, 10) := rfl
theorem lM11 : layM 11 = (1, 10) := rfl
theorem lM12 : layM 12 = (1, 6) := rfl
theorem lM13 : layM 13 = (1, 6) := rfl
theorem lM14 : layM 14 = (1, 12) := rfl
theorem lM15 : layM 15 = (1, 12) := rfl
theorem lM16 : layM 16 = (1, 24) := rfl
theorem lM17 : layM 17 = (1, 2) := rfl
theorem lM18 : layM 18 = (1, 2) := rfl
theorem lM19 : layM 19 = (1, 2000) := rfl
theorem lM20 : layM 20 = (1, 7) := rfl
theorem lM21 : layM 21 = (3, 7) := rfl
theorem lM22 : layM 22 = (1, 7) := rfl
theorem lM23 : layM 23 = (1, 7) := rfl
theorem lM24 : layM 24 = (1, 7) := rfl
theorem lM25 : layM 25 = (1, 7) := rfl
theorem lM26 : layM 26 = (1, 7) := rfl
theorem lM27 : layM 27 = (1, 7) := rfl
theorem lM28 : layM 28 = (1, 7) := rfl
theorem lM29 : layM 29 = (1, 7) := rfl
theorem lM30 : layM 30 = (1, 7) := rfl
theorem lM31 : layM 31 = (1, 20) := rfl
theorem lM32 : layM 32 = (1, 6) := rfl
theorem lM33 : layM 33 = (1, 240) := rfl
theorem lM34 : layM 34 = (1, 240) := rfl
theorem lM35 : layM 35 = (1, 240) := rfl
theorem lM36 : layM 36 = (1, 5) := rfl
theorem lM37 : layM 37 = (1, 40) := rfl
theorem lM38 : layM 38 = (1, 40) := rfl
theorem lM39 : layM 39 = (3, 40) := rfl
theorem lM40 : layM 40 = (1, 25) := rfl
theorem lM41 : layM 41 = (1, 25) := rfl
theorem lM42 : layM 42 = (1, 25) := rfl
theorem lM43 : layM 43 = (1, 100) := rfl
theorem lM44 : layM 44 = (1, 400) := rfl
theorem lM45 : layM 45 = (3, 4) := rfl
theorem lM46 : layM 46 = (1, 7) := rfl
theorem lM47 : layM 47 = (1, 18) := rfl
theorem lM48 : layM 48 = (1, 3) := rfl
theorem lM49 : layM 49 = (1, 3) := rfl
theorem lM50 : layM 50 = (1, 70) := rfl
theorem lyD_10_1 : ∀ a, a < 241 → layC a = (10, 16) → layC (a + 1) = (13, 2) := by decide +kernel
theorem lyC_10_1 {a : Nat} (h : layC a = (10, 16)) : layC (a + 1) = (13, 2) := lyD_10_1 a (Nat.lt_succ_of_le (layC_lt h).2) h
theorem lyD_10_3 : ∀ a, a < 241 → layC a = (10, 16) → layC (a + 3) = (13, 2) := by decide +kernel
theorem lyC_10_3 {a : Nat} (h : layC a = (10, 16)) : layC (a + 3) = (13, 2) := lyD_10_3 a (Nat.lt_succ_of_le (layC_lt h).2) h
theorem lyD_10_5 : ∀ a, a < 241 → layC a = (10, 16) → layC (a + 5) = (13, 2) := by decide +kernel
theorem lyC_10_5 {a : Nat} (h : layC a = (10, 16)) : layC (a + 5) = (13, 2) := lyD_10_5 a (Nat.lt_succ_of_le (layC_lt h).2) h
theorem lyD_10_7 : ∀ a, a < 241 → layC a = (10, 16) → layC (a + 7) = (13, 2) := by decide +kernel
theorem lyC_10_7 {a : Nat} (h : layC a = (10, 16)) : layC (a + 7) = (13, 2) := lyD_10_7 a (Nat.lt_succ_of_le (layC_lt h).2) h
theorem lyD_10_9 : ∀ a, a < 241 → layC a = (10, 16) → layC (a + 9) = (1, 7) := by decide +kernel
theorem lyC_10_9 {a : Nat} (h : layC a = (10, 16)) : layC (a + 9) = (1, 7) := lyD_10_9 a (Nat.lt_succ_of_le (layC_lt h).2) h
theorem lyD_10_10 : ∀ a, a < 241 → layC a = (10, 16) → layC (a + 10) = (1, 7) := by decide +kernel
theorem lyC_10_10 {a : Nat} (h : layC a = (10, 16)) : layC (a + 10) = (1, 7) := lyD_10_10 a (Nat.lt_succ_of_le (layC_lt h).2) h
theorem lyD_10_11 : ∀ a, a < 241 → layC a = (10, 16) → layC (a + 11) = (1, 5) := by decide +kernel
theorem lyC_10_11 {a : Nat} (h : layC a = (10, 16)) : layC (a + 11) = (1, 5) := lyD_10_11 a (Nat.lt_succ_of_le (layC_lt h).2) h
theorem lyD_10_12 : ∀ a, a < 241 → layC a = (10, 16) → layC (a + 12) = (1, 5) := by decide +kernel
theorem lyC_10_12 {a : Nat} (h : layC a = (10, 16)) : layC (a + 12) = (1, 5) := lyD_10_12 a (Nat.lt_succ_of_le (layC_lt h).2) h
theorem lyD_10_13 : ∀ a, a < 241 → layC a = (10, 16) → layC (a + 13) = (1, 3) := by decide +kernel
theorem lyC_10_13 {a : Nat} (h : layC a = (10, 16)) : layC (a + 13) = (1, 3) := lyD_10_13 a (Nat.lt_succ_of_le (layC_lt h).2) h
theorem lyD_10_14 : ∀ a, a < 241 → layC a = (10, 16) → layC (a + 14) = (1, 3) := by decide +kernel
theorem lyC_10_14 {a : Nat} (h : layC a = (10, 16)) : layC (a + 14) = (1, 3) := lyD_10_14 a (Nat.lt_succ_of_le (layC_lt h).2) h
theorem lyD_10_15 : ∀ a, a < 241 → layC a = (10, 16) → layC (a + 15) = (1, 6) := by decide +kernel
theorem lyC_10_15 {a : Nat} (h : layC a = (10, 16)) : layC (a + 15) = (1, 6) := lyD_10_15 a (Nat.lt_succ_of_le (layC_lt h).2) h
theorem lyD_10_16 : ∀ a, a < 241 → layC a = (10, 16) → layC (a + 16) = (1, 6) := by decide +kernel
theorem lyC_10_16 {a : Nat} (h : layC a = (10, 16)) : layC (a + 16) = (1, 6) := lyD_10_16 a (Nat.lt_succ_of_le (layC_lt h).2) h
theorem lyD_10_17 : ∀ a, a < 241 → layC a = (10, 16) → layC (a + 17) = (1, 12) := by decide +kernel
theorem lyC_10_17 {a : Nat} (h : layC a = (10, 16)) : layC (a + 17) = (1, 12) := lyD_10_17 a (Nat.lt_succ_of_le (layC_lt h).2) h
theorem lyD_10_18 : ∀ a, a < 241 → layC a = (10, 16) → layC (a + 18) = (11, 3) := by decide +kernel
theorem lyC_10_18 {a : Nat} (h : layC a = (10, 16)) : layC (a + 18) = (11, 3) := lyD_10_18 a (Nat.lt_succ_of_le (layC_lt h).2) h
theorem lyD_11_1 : ∀ a, a < 241 → layC a = (11, 3) → layC (a + 1) = (1, 1000) := by decide +kernel
theorem lyC_11_1 {a : Nat} (h : layC a = (11, 3)) : layC (a + 1) = (1, 1000) := lyD_11_1 a (Nat.lt_succ_of_le (layC_lt h).2) h
theorem lyD_11_2 : ∀ a, a < 241 → layC a = (11, 3) → layC (a + 2) = (1, 32) := by decide +kernel
theorem lyC_11_2 {a : Nat} (h : layC a = (11, 3)) : layC (a + 2) = (1, 32) := lyD_11_2 a (Nat.lt_succ_of_le (layC_lt h).2) h
theorem lyD_12_1 : ∀ a, a < 241 → layC a = (12, 4) → layC (a + 1) = (17, 6) := by decide +kernel
theorem lyC_12_1 {a : Nat} (h : layC a = (12, 4)) : layC (a + 1) = (17, 6) := lyD_12_1 a (Nat.lt_succ_of_le (layC_lt h).2) h
theorem lyD_12_7 : ∀ a, a < 241 → layC a = (12, 4) → layC (a + 7) = (16, 4) := by decide +kernel
theorem lyC_12_7 {a : Nat} (h : layC a = (12, 4)) : layC (a + 7) = (16, 4) := lyD_12_7 a (Nat.lt_succ_of_le (layC_lt h).2) h
theorem lyD_12_11 : ∀ a, a < 241 → layC a = (12, 4) → layC (a + 11) = (15, 4) := by decide +kernel
theorem lyC_12_11 {a : Nat} (h : layC a = (12, 4)) : layC (a + 11) = (15, 4) := lyD_12_11 a (Nat.lt_succ_of_le (layC_lt h).2) h
theorem lyD_13_1 : ∀ a, a < 241 → layC a = (13, 2) → layC (a + 1) = (2, (layC (a + 1)).2) := by decide +kernel
theorem lyC_13_1 {a : Nat} (h : layC a = (13, 2)) : layC (a + 1) = (2, (layC (a + 1)).2) := lyD_13_1 a (Nat.lt_succ_of_le (layC_lt h).2) h
theorem lyD_15_1 : ∀ a, a < 241 → layC a = (15, 4) → layC (a + 1) = (1, 8) := by decide +kernel
theorem lyC_15_1 {a : Nat} (h : layC a = (15, 4)) : layC (a + 1) = (1, 8) := lyD_15_1 a (Nat.lt_succ_of_le (layC_lt h).2) h
theorem lyD_15_2 : ∀ a, a < 241 → layC a = (15, 4) → layC (a + 2) = (1, 8) := by decide +kernel
theorem lyC_15_2 {a : Nat} (h : layC a = (15, 4)) : layC (a + 2) = (1, 8) := lyD_15_2 a (Nat.lt_succ_of_le (layC_lt h).2) h
theorem lyD_15_3 : ∀ a, a < 241 → layC a = (15, 4) → layC (a + 3) = (3, 8) := by decide +kernel
theorem lyC_15_3 {a : Nat} (h : layC a = (15, 4)) : layC (a + 3) = (3, 8) := lyD_15_3 a (Nat.lt_succ_of_le (layC_lt h).2) h
theorem lyD_16_1 : ∀ a, a < 241 → layC a = (16, 4) → layC (a + 1) = (1, 40) := by decide +kernel
theorem lyC_16_1 {a : Nat} (h : layC a = (16, 4)) : layC (a + 1) = (1, 40) := lyD_16_1 a (Nat.lt_succ_of_le (layC_lt h).2) h
theorem lyD_16_2 : ∀ a, a < 241 → layC a = (16, 4) → layC (a + 2) = (1, 40) := by decide +kernel
theorem lyC_16_2 {a : Nat} (h : layC a = (16, 4)) : layC (a + 2) = (1, 40) := lyD_16_2 a (Nat.lt_succ_of_le (layC_lt h).2) h
theorem lyD_16_3 : ∀ a, a < 241 → layC a = (16, 4) → layC (a + 3) = (1, 40) := by decide +kernel
theorem lyC_16_3 {a : Nat} (h : layC a = (16, 4)) : layC (a + 3) = (1, 40) := lyD_16_3 a (Nat.lt_succ_of_le (layC_lt h).2) h
theorem lyD_17_1 : ∀ a, a < 241 → layC a = (17, 6) → layC (a + 1) = (1, 7) := by decide +kernel
theorem lyC_17_1 {a : Nat} (h : layC a = (17, 6)) : layC (a + 1) = (1, 7) := lyD_17_1 a (Nat.lt_succ_of_le (layC_lt h).2) h
theorem lyD_17_2 : ∀ a, a < 241 → layC a = (17, 6) → layC (a + 2) = (1, 5) := by decide +kernel
theorem lyC_17_2 {a : Nat} (h : layC a = (17, 6)) : layC (a + 2) = (1, 5) := lyD_17_2 a (Nat.lt_succ_of_le (layC_lt h).2) h
theorem lyD_17_3 : ∀ a, a < 241 → layC a = (17, 6) → layC (a + 3) = (1, 3) := by decide +kernel
theorem lyC_17_3 {a : Nat} (h : layC a = (17, 6)) : layC (a + 3) = (1, 3) := lyD_17_3 a (Nat.lt_succ_of_le (layC_lt h).2) h
theorem lyD_17_4 : ∀ a, a < 241 → layC a = (17, 6) → layC (a + 4) = (1, 3) := by decide +kernel
theorem lyC_17_4 {a : Nat} (h : layC a = (17, 6)) : layC (a + 4) = (1, 3) := lyD_17_4 a (Nat.lt_succ_of_le (layC_lt h).2) h
theorem lyD_17_5 : ∀ a, a < 241 → layC a = (17, 6) → layC (a + 5) = (1, 6) := by decide +kernel
theorem lyC_17_5 {a : Nat} (h : layC a = (17, 6)) : layC (a + 5) = (1, 6) := lyD_17_5 a (Nat.lt_succ_of_le (layC_lt h).2) h
theorem lyC_a5 : ∀ k, k < 16 → layC (82 + (3 + 6 * k)) = (17, 6) := by decide +kernel
theorem lyC_a6 : ∀ k, k < 4 → layC (83 + (98 + 15 * k)) = (12, 4) := by decide +kernel
theorem ib_lt {i : Int32} {n : Nat} (h : ib i n = true) : ix i < n := by
  have := ib_in h
  exact Nat.not_le.mp fun q => this (Or.inr q)
theorem lyC_arr5 {i : Int32} (h : ib i 16 = true) : layC (82 + (3 + 6 * ix i)) = (17, 6) := lyC_a5 _ (ib_lt h)
theorem lyC_arr6 {i : Int32} (h : ib i 4 = true) : layC (83 + (98 + 15 * ix i)) = (12, 4) := lyC_a6 _ (ib_lt h)
theorem rm_ok {R : Room} {a b fr lo : Nat} {X : Prop} (h : R.frames = fr ∧ R.locals = lo ∧ X) (h1 : a ≤ fr) (h2 : b ≤ lo) : a ≤ R.frames ∧ b ≤ R.locals := ⟨by rw [h.1]; exact h1, by rw [h.2.1]; exact h2⟩
/-- more rounds than any loop needs -/
def zF : Nat := 4096
theorem zlook_out {x : Int32} {o0 o1 d : Int} (h0 : ¬ x = 0) (h1 : ¬ x = 1) : Op.lookupswitch.offset [(0, o0), (1, o1)] d x.toInt = d := by
  have g0 : ¬ x.toInt = 0 := fun e => h0 (Int32.toInt_inj.mp (by rw [e]; rfl))
  have g1 : ¬ x.toInt = 1 := fun e => h1 (Int32.toInt_inj.mp (by rw [e]; rfl))
  simp [Op.lookupswitch.offset, Ne.symm g0, Ne.symm g1, g0, g1]
theorem zly0_0 : u_lay (zRn 0) (zTb 0) 0 ∈ zT := zT_1 (List.mem_of_getElem? (i := 148) rfl) rfl
theorem zly0_1 : u_lay (zRn 0) (zTb 0) 1 ∈ zT := zT_1 (List.mem_of_getElem? (i := 150) rfl) rfl
theorem zly0_2 : u_lay (zRn 0) (zTb 0) 2 ∈ zT := zT_1 (List.mem_of_getElem? (i := 152) rfl) rfl
theorem zly0_3 : u_lay (zRn 0) (zTb 0) 3 ∈ zT := zT_1 (List.mem_of_getElem? (i := 154) rfl) rfl
theorem zly0_4 : u_lay (zRn 0) (zTb 0) 4 ∈ zT := zT_1 (List.mem_of_getElem? (i := 156) rfl) rfl
theorem zly0_5 : u_lay (zRn 0) (zTb 0) 5 ∈ zT := zT_1 (List.mem_of_getElem? (i := 158) rfl) rfl
theorem zly0_6 : u_lay (zRn 0) (zTb 0) 6 ∈ zT := zT_1 (List.mem_of_getElem? (i := 160) rfl) rfl
theorem zly0_7 : u_lay (zRn 0) (zTb 0) 7 ∈ zT := zT_1 (List.mem_of_getElem? (i := 162) rfl) rfl
theorem zly0_8 : u_lay (zRn 0) (zTb 0) 8 ∈ zT := zT_1 (List.mem_of_getElem? (i := 164) rfl) rfl
theorem zly0_9 : u_lay (zRn 0) (zTb 0) 9 ∈ zT := zT_1 (List.mem_of_getElem? (i := 166) rfl) rfl
theorem zly0_10 : u_lay (zRn 0) (zTb 0) 10 ∈ zT := zT_1 (List.mem_of_getElem? (i := 168) rfl) rfl
theorem zly0_11 : u_lay (zRn 0) (zTb 0) 11 ∈ zT := zT_1 (List.mem_of_getElem? (i := 170) rfl) rfl
theorem zly0_12 : u_lay (zRn 0) (zTb 0) 12 ∈ zT := zT_1 (List.mem_of_getElem? (i := 172) rfl) rfl
theorem zly0_13 : u_lay (zRn 0) (zTb 0) 13 ∈ zT := zT_1 (List.mem_of_getElem? (i := 174) rfl) rfl
theorem zly0_14 : u_lay (zRn 0) (zTb 0) 14 ∈ zT := zT_1 (List.mem_of_getElem? (i := 176) rfl) rfl
theorem zly0_15 : u_lay (zRn 0) (zTb 0) 15 ∈ zT := zT_1 (List.mem_of_getElem? (i := 178) rfl) rfl
theorem zly0 : ∀ k, k < zNf 0 → u_lay (zRn 0) (zTb 0) k ∈ zT := fun k hk => match k, hk with
  | 0, _ => zly0_0
  | 1, _ => zly0_1
  | 2, _ => zly0_2
  | 3, _ => zly0_3
  | 4, _ => zly0_4
  | 5, _ => zly0_5
  | 6, _ => zly0_6
  | 7, _ => zly0_7
  | 8, _ => zly0_8
  | 9, _ => zly0_9
  | 10, _ => zly0_10
  | 11, _ => zly0_11
  | 12, _ => zly0_12
  | 13, _ => zly0_13
  | 14, _ => zly0_14
  | 15, _ => zly0_15
  | j + 16, h => absurd h (by show ¬ (j + 16 < 16); omega)
theorem zly1_0 : u_lay (zRn 1) (zTb 1) 0 ∈ zT := zT_1 (List.mem_of_getElem? (i := 96) rfl) rfl
theorem zly1_1 : u_lay (zRn 1) (zTb 1) 1 ∈ zT := zT_1 (List.mem_of_getElem? (i := 98) rfl) rfl
theorem zly1_2 : u_lay (zRn 1) (zTb 1) 2 ∈ zT := zT_1 (List.mem_of_getElem? (i := 100) rfl) rfl
theorem zly1 : ∀ k, k < zNf 1 → u_lay (zRn 1) (zTb 1) k ∈ zT := fun k hk => match k, hk with
  | 0, _ => zly1_0
  | 1, _ => zly1_1
  | 2, _ => zly1_2
  | j + 3, h => absurd h (by show ¬ (j + 3 < 3); omega)
theorem zly2_0 : u_lay (zRn 2) (zTb 2) 0 ∈ zT := zT_2 (List.mem_of_getElem? (i := 85) rfl) rfl
theorem zly2_1 : u_lay (zRn 2) (zTb 2) 1 ∈ zT := zT_2 (List.mem_of_getElem? (i := 87) rfl) rfl
theorem zly2_2 : u_lay (zRn 2) (zTb 2) 2 ∈ zT := zT_2 (List.mem_of_getElem? (i := 89) rfl) rfl
theorem zly2_3 : u_lay (zRn 2) (zTb 2) 3 ∈ zT := zT_2 (List.mem_of_getElem? (i := 91) rfl) rfl
theorem zly2 : ∀ k, k < zNf 2 → u_lay (zRn 2) (zTb 2) k ∈ zT := fun k hk => match k, hk with
  | 0, _ => zly2_0
  | 1, _ => zly2_1
  | 2, _ => zly2_2
  | 3, _ => zly2_3
  | j + 4, h => absurd h (by show ¬ (j + 4 < 4); omega)
theorem zly3_0 : u_lay (zRn 3) (zTb 3) 0 ∈ zT := zT_1 (List.mem_of_getElem? (i := 80) rfl) rfl
theorem zly3_1 : u_lay (zRn 3) (zTb 3) 1 ∈ zT := zT_1 (List.mem_of_getElem? (i := 82) rfl) rfl
theorem zly3 : ∀ k, k < zNf 3 → u_lay (zRn 3) (zTb 3) k ∈ zT := fun k hk => match k, hk with
  | 0, _ => zly3_0
  | 1, _ => zly3_1
  | j + 2, h => absurd h (by show ¬ (j + 2 < 2); omega)
theorem zly4_0 : u_lay (zRn 4) (zTb 4) 0 ∈ zT := zT_2 (List.mem_of_getElem? (i := 44) rfl) rfl
theorem zly4_1 : u_lay (zRn 4) (zTb 4) 1 ∈ zT := zT_2 (List.mem_of_getElem? (i := 46) rfl) rfl
theorem zly4_2 : u_lay (zRn 4) (zTb 4) 2 ∈ zT := zT_2 (List.mem_of_getElem? (i := 48) rfl) rfl
theorem zly4_3 : u_lay (zRn 4) (zTb 4) 3 ∈ zT := zT_2 (List.mem_of_getElem? (i := 50) rfl) rfl
theorem zly4_4 : u_lay (zRn 4) (zTb 4) 4 ∈ zT := zT_2 (List.mem_of_getElem? (i := 52) rfl) rfl
theorem zly4_5 : u_lay (zRn 4) (zTb 4) 5 ∈ zT := zT_2 (List.mem_of_getElem? (i := 54) rfl) rfl
theorem zly4_6 : u_lay (zRn 4) (zTb 4) 6 ∈ zT := zT_2 (List.mem_of_getElem? (i := 56) rfl) rfl
theorem zly4_7 : u_lay (zRn 4) (zTb 4) 7 ∈ zT := zT_2 (List.mem_of_getElem? (i := 58) rfl) rfl
theorem zly4_8 : u_lay (zRn 4) (zTb 4) 8 ∈ zT := zT_2 (List.mem_of_getElem? (i := 60) rfl) rfl
theorem zly4 : ∀ k, k < zNf 4 → u_lay (zRn 4) (zTb 4) k ∈ zT := fun k hk => match k, hk with
  | 0, _ => zly4_0
  | 1, _ => zly4_1
  | 2, _ => zly4_2
  | 3, _ => zly4_3
  | 4, _ => zly4_4
  | 5, _ => zly4_5
  | 6, _ => zly4_6
  | 7, _ => zly4_7
  | 8, _ => zly4_8
  | j + 9, h => absurd h (by show ¬ (j + 9 < 9); omega)
theorem zly5_0 : u_lay (zRn 5) (zTb 5) 0 ∈ zT := zT_2 (List.mem_of_getElem? (i := 14) rfl) rfl
theorem zly5_1 : u_lay (zRn 5) (zTb 5) 1 ∈ zT := zT_2 (List.mem_of_getElem? (i := 16) rfl) rfl
theorem zly5_2 : u_lay (zRn 5) (zTb 5) 2 ∈ zT := zT_2 (List.mem_of_getElem? (i := 18) rfl) rfl
theorem zly5_3 : u_lay (zRn 5) (zTb 5) 3 ∈ zT := zT_2 (List.mem_of_getElem? (i := 20) rfl) rfl
theorem zly5 : ∀ k, k < zNf 5 → u_lay (zRn 5) (zTb 5) k ∈ zT := fun k hk => match k, hk with
  | 0, _ => zly5_0
  | 1, _ => zly5_1
  | 2, _ => zly5_2
  | 3, _ => zly5_3
  | j + 4, h => absurd h (by show ¬ (j + 4 < 4); omega)
theorem zly6_0 : u_lay (zRn 6) (zTb 6) 0 ∈ zT := zT_1 (List.mem_of_getElem? (i := 195) rfl) rfl
theorem zly6_1 : u_lay (zRn 6) (zTb 6) 1 ∈ zT := zT_1 (List.mem_of_getElem? (i := 197) rfl) rfl
theorem zly6_2 : u_lay (zRn 6) (zTb 6) 2 ∈ zT := zT_1 (List.mem_of_getElem? (i := 199) rfl) rfl
theorem zly6_3 : u_lay (zRn 6) (zTb 6) 3 ∈ zT := zT_1 (List.mem_of_getElem? (i := 201) rfl) rfl
theorem zly6 : ∀ k, k < zNf 6 → u_lay (zRn 6) (zTb 6) k ∈ zT := fun k hk => match k, hk with
  | 0, _ => zly6_0
  | 1, _ => zly6_1
  | 2, _ => zly6_2
  | 3, _ => zly6_3
  | j + 4, h => absurd h (by show ¬ (j + 4 < 4); omega)
theorem zly7_0 : u_lay (zRn 7) (zTb 7) 0 ∈ zT := zT_1 (List.mem_of_getElem? (i := 227) rfl) rfl
theorem zly7_1 : u_lay (zRn 7) (zTb 7) 1 ∈ zT := zT_1 (List.mem_of_getElem? (i := 229) rfl) rfl
theorem zly7_2 : u_lay (zRn 7) (zTb 7) 2 ∈ zT := zT_1 (List.mem_of_getElem? (i := 231) rfl) rfl
theorem zly7_3 : u_lay (zRn 7) (zTb 7) 3 ∈ zT := zT_1 (List.mem_of_getElem? (i := 233) rfl) rfl
theorem zly7_4 : u_lay (zRn 7) (zTb 7) 4 ∈ zT := zT_1 (List.mem_of_getElem? (i := 235) rfl) rfl
theorem zly7_5 : u_lay (zRn 7) (zTb 7) 5 ∈ zT := zT_1 (List.mem_of_getElem? (i := 237) rfl) rfl
theorem zly7 : ∀ k, k < zNf 7 → u_lay (zRn 7) (zTb 7) k ∈ zT := fun k hk => match k, hk with
  | 0, _ => zly7_0
  | 1, _ => zly7_1
  | 2, _ => zly7_2
  | 3, _ => zly7_3
  | 4, _ => zly7_4
  | 5, _ => zly7_5
  | j + 6, h => absurd h (by show ¬ (j + 6 < 6); omega)
theorem zly8_0 : u_lay (zRn 8) (zTb 8) 0 ∈ zT := zT_1 (List.mem_of_getElem? (i := 46) rfl) rfl
theorem zly8_1 : u_lay (zRn 8) (zTb 8) 1 ∈ zT := zT_1 (List.mem_of_getElem? (i := 48) rfl) rfl
theorem zly8_2 : u_lay (zRn 8) (zTb 8) 2 ∈ zT := zT_1 (List.mem_of_getElem? (i := 50) rfl) rfl
theorem zly8_3 : u_lay (zRn 8) (zTb 8) 3 ∈ zT := zT_1 (List.mem_of_getElem? (i := 52) rfl) rfl
theorem zly8_4 : u_lay (zRn 8) (zTb 8) 4 ∈ zT := zT_1 (List.mem_of_getElem? (i := 54) rfl) rfl
theorem zly8_5 : u_lay (zRn 8) (zTb 8) 5 ∈ zT := zT_1 (List.mem_of_getElem? (i := 56) rfl) rfl
theorem zly8_6 : u_lay (zRn 8) (zTb 8) 6 ∈ zT := zT_1 (List.mem_of_getElem? (i := 58) rfl) rfl
theorem zly8 : ∀ k, k < zNf 8 → u_lay (zRn 8) (zTb 8) k ∈ zT := fun k hk => match k, hk with
  | 0, _ => zly8_0
  | 1, _ => zly8_1
  | 2, _ => zly8_2
  | 3, _ => zly8_3
  | 4, _ => zly8_4
  | 5, _ => zly8_5
  | 6, _ => zly8_6
  | j + 7, h => absurd h (by show ¬ (j + 7 < 7); omega)
theorem zly9_0 : u_lay (zRn 9) (zTb 9) 0 ∈ zT := zT_2 (List.mem_of_getElem? (i := 120) rfl) rfl
theorem zly9_1 : u_lay (zRn 9) (zTb 9) 1 ∈ zT := zT_2 (List.mem_of_getElem? (i := 122) rfl) rfl
theorem zly9_2 : u_lay (zRn 9) (zTb 9) 2 ∈ zT := zT_2 (List.mem_of_getElem? (i := 124) rfl) rfl
theorem zly9_3 : u_lay (zRn 9) (zTb 9) 3 ∈ zT := zT_2 (List.mem_of_getElem? (i := 126) rfl) rfl
theorem zly9_4 : u_lay (zRn 9) (zTb 9) 4 ∈ zT := zT_2 (List.mem_of_getElem? (i := 128) rfl) rfl
theorem zly9_5 : u_lay (zRn 9) (zTb 9) 5 ∈ zT := zT_2 (List.mem_of_getElem? (i := 130) rfl) rfl
theorem zly9_6 : u_lay (zRn 9) (zTb 9) 6 ∈ zT := zT_2 (List.mem_of_getElem? (i := 132) rfl) rfl
theorem zly9_7 : u_lay (zRn 9) (zTb 9) 7 ∈ zT := zT_2 (List.mem_of_getElem? (i := 134) rfl) rfl
theorem zly9_8 : u_lay (zRn 9) (zTb 9) 8 ∈ zT := zT_2 (List.mem_of_getElem? (i := 136) rfl) rfl
theorem zly9_9 : u_lay (zRn 9) (zTb 9) 9 ∈ zT := zT_2 (List.mem_of_getElem? (i := 138) rfl) rfl
theorem zly9_10 : u_lay (zRn 9) (zTb 9) 10 ∈ zT := zT_2 (List.mem_of_getElem? (i := 140) rfl) rfl
theorem zly9_11 : u_lay (zRn 9) (zTb 9) 11 ∈ zT := zT_2 (List.mem_of_getElem? (i := 142) rfl) rfl
theorem zly9_12 : u_lay (zRn 9) (zTb 9) 12 ∈ zT := zT_2 (List.mem_of_getElem? (i := 144) rfl) rfl
theorem zly9_13 : u_lay (zRn 9) (zTb 9) 13 ∈ zT := zT_2 (List.mem_of_getElem? (i := 146) rfl) rfl
theorem zly9_14 : u_lay (zRn 9) (zTb 9) 14 ∈ zT := zT_2 (List.mem_of_getElem? (i := 148) rfl) rfl
theorem zly9 : ∀ k, k < zNf 9 → u_lay (zRn 9) (zTb 9) k ∈ zT := fun k hk => match k, hk with
  | 0, _ => zly9_0
  | 1, _ => zly9_1
  | 2, _ => zly9_2
  | 3, _ => zly9_3
  | 4, _ => zly9_4
  | 5, _ => zly9_5
  | 6, _ => zly9_6
  | 7, _ => zly9_7
  | 8, _ => zly9_8
  | 9, _ => zly9_9
  | 10, _ => zly9_10
  | 11, _ => zly9_11
  | 12, _ => zly9_12
  | 13, _ => zly9_13
  | 14, _ => zly9_14
  | j + 15, h => absurd h (by show ¬ (j + 15 < 15); omega)
theorem zly10_0 : u_lay (zRn 10) (zTb 10) 0 ∈ zT := zT_6 (List.mem_of_getElem? (i := 16) rfl) rfl
theorem zly10_1 : u_lay (zRn 10) (zTb 10) 1 ∈ zT := zT_6 (List.mem_of_getElem? (i := 18) rfl) rfl
theorem zly10_2 : u_lay (zRn 10) (zTb 10) 2 ∈ zT := zT_6 (List.mem_of_getElem? (i := 20) rfl) rfl
theorem zly10_3 : u_lay (zRn 10) (zTb 10) 3 ∈ zT := zT_6 (List.mem_of_getElem? (i := 22) rfl) rfl
theorem zly10_4 : u_lay (zRn 10) (zTb 10) 4 ∈ zT := zT_6 (List.mem_of_getElem? (i := 24) rfl) rfl
theorem zly10_5 : u_lay (zRn 10) (zTb 10) 5 ∈ zT := zT_6 (List.mem_of_getElem? (i := 26) rfl) rfl
theorem zly10_6 : u_lay (zRn 10) (zTb 10) 6 ∈ zT := zT_6 (List.mem_of_getElem? (i := 28) rfl) rfl
theorem zly10_7 : u_lay (zRn 10) (zTb 10) 7 ∈ zT := zT_6 (List.mem_of_getElem? (i := 30) rfl) rfl
theorem zly10_8 : u_lay (zRn 10) (zTb 10) 8 ∈ zT := zT_6 (List.mem_of_getElem? (i := 32) rfl) rfl
theorem zly10_9 : u_lay (zRn 10) (zTb 10) 9 ∈ zT := zT_6 (List.mem_of_getElem? (i := 34) rfl) rfl
theorem zly10_10 : u_lay (zRn 10) (zTb 10) 10 ∈ zT := zT_6 (List.mem_of_getElem? (i := 36) rfl) rfl
theorem zly10_11 : u_lay (zRn 10) (zTb 10) 11 ∈ zT := zT_6 (List.mem_of_getElem? (i := 38) rfl) rfl
theorem zly10_12 : u_lay (zRn 10) (zTb 10) 12 ∈ zT := zT_6 (List.mem_of_getElem? (i := 40) rfl) rfl
theorem zly10_13 : u_lay (zRn 10) (zTb 10) 13 ∈ zT := zT_6 (List.mem_of_getElem? (i := 42) rfl) rfl
theorem zly10_14 : u_lay (zRn 10) (zTb 10) 14 ∈ zT := zT_6 (List.mem_of_getElem? (i := 44) rfl) rfl
theorem zly10_15 : u_lay (zRn 10) (zTb 10) 15 ∈ zT := zT_6 (List.mem_of_getElem? (i := 46) rfl) rfl
theorem zly10_16 : u_lay (zRn 10) (zTb 10) 16 ∈ zT := zT_6 (List.mem_of_getElem? (i := 48) rfl) rfl
theorem zly10_17 : u_lay (zRn 10) (zTb 10) 17 ∈ zT := zT_6 (List.mem_of_getElem? (i := 50) rfl) rfl
theorem zly10_18 : u_lay (zRn 10) (zTb 10) 18 ∈ zT := zT_6 (List.mem_of_getElem? (i := 52) rfl) rfl
theorem zly10_19 : u_lay (zRn 10) (zTb 10) 19 ∈ zT := zT_6 (List.mem_of_getElem? (i := 54) rfl) rfl
theorem zly10_20 : u_lay (zRn 10) (zTb 10) 20 ∈ zT := zT_6 (List.mem_of_getElem? (i := 56) rfl) rfl
theorem zly10_21 : u_lay (zRn 10) (zTb 10) 21 ∈ zT := zT_6 (List.mem_of_getElem? (i := 58) rfl) rfl
theorem zly10_22 : u_lay (zRn 10) (zTb 10) 22 ∈ zT := zT_6 (List.mem_of_getElem? (i := 60) rfl) rfl
theorem zly10_23 : u_lay (zRn 10) (zTb 10) 23 ∈ zT := zT_6 (List.mem_of_getElem? (i := 62) rfl) rfl
theorem zly10_24 : u_lay (zRn 10) (zTb 10) 24 ∈ zT := zT_6 (List.mem_of_getElem? (i := 64) rfl) rfl
theorem zly10_25 : u_lay (zRn 10) (zTb 10) 25 ∈ zT := zT_6 (List.mem_of_getElem? (i := 66) rfl) rfl
theorem zly10_26 : u_lay (zRn 10) (zTb 10) 26 ∈ zT := zT_6 (List.mem_of_getElem? (i := 68) rfl) rfl
theorem zly10_27 : u_lay (zRn 10) (zTb 10) 27 ∈ zT := zT_6 (List.mem_of_getElem? (i := 70) rfl) rfl
theorem zly10_28 : u_lay (zRn 10) (zTb 10) 28 ∈ zT := zT_6 (List.mem_of_getElem? (i := 72) rfl) rfl
theorem zly10_29 : u_lay (zRn 10) (zTb 10) 29 ∈ zT := zT_6 (List.mem_of_getElem? (i := 74) rfl) rfl
theorem zly10_30 : u_lay (zRn 10) (zTb 10) 30 ∈ zT := zT_6 (List.mem_of_getElem? (i := 76) rfl) rfl
theorem zly10_31 : u_lay (zRn 10) (zTb 10) 31 ∈ zT := zT_6 (List.mem_of_getElem? (i := 78) rfl) rfl
theorem zly10_32 : u_lay (zRn 10) (zTb 10) 32 ∈ zT := zT_6 (List.mem_of_getElem? (i := 80) rfl) rfl
theorem zly10_33 : u_lay (zRn 10) (zTb 10) 33 ∈ zT := zT_6 (List.mem_of_getElem? (i := 82) rfl) rfl
theorem zly10_34 : u_lay (zRn 10) (zTb 10) 34 ∈ zT := zT_6 (List.mem_of_getElem? (i := 84) rfl) rfl
theorem zly10_35 : u_lay (zRn 10) (zTb 10) 35 ∈ zT := zT_6 (List.mem_of_getElem? (i := 86) rfl) rfl
theorem zly10_36 : u_lay (zRn 10) (zTb 10) 36 ∈ zT := zT_6 (List.mem_of_getElem? (i := 88) rfl) rfl
theorem zly10_37 : u_lay (zRn 10) (zTb 10) 37 ∈ zT := zT_6 (List.mem_of_getElem? (i := 90) rfl) rfl
theorem zly10_38 : u_lay (zRn 10) (zTb 10) 38 ∈ zT := zT_6 (List.mem_of_getElem? (i := 92) rfl) rfl
theorem zly10_39 : u_lay (zRn 10) (zTb 10) 39 ∈ zT := zT_6 (List.mem_of_getElem? (i := 94) rfl) rfl
theorem zly10_40 : u_lay (zRn 10) (zTb 10) 40 ∈ zT := zT_6 (List.mem_of_getElem? (i := 96) rfl) rfl
theorem zly10_41 : u_lay (zRn 10) (zTb 10) 41 ∈ zT := zT_6 (List.mem_of_getElem? (i := 98) rfl) rfl
theorem zly10_42 : u_lay (zRn 10) (zTb 10) 42 ∈ zT := zT_6 (List.mem_of_getElem? (i := 100) rfl) rfl
theorem zly10_43 : u_lay (zRn 10) (zTb 10) 43 ∈ zT := zT_6 (List.mem_of_getElem? (i := 102) rfl) rfl
theorem zly10_44 : u_lay (zRn 10) (zTb 10) 44 ∈ zT := zT_6 (List.mem_of_getElem? (i := 104) rfl) rfl
theorem zly10_45 : u_lay (zRn 10) (zTb 10) 45 ∈ zT := zT_6 (List.mem_of_getElem? (i := 106) rfl) rfl
theorem zly10_46 : u_lay (zRn 10) (zTb 10) 46 ∈ zT := zT_6 (List.mem_of_getElem? (i := 108) rfl) rfl
theorem zly10_47 : u_lay (zRn 10) (zTb 10) 47 ∈ zT := zT_6 (List.mem_of_getElem? (i := 110) rfl) rfl
theorem zly10_48 : u_lay (zRn 10) (zTb 10) 48 ∈ zT := zT_6 (List.mem_of_getElem? (i := 112) rfl) rfl
theorem zly10_49 : u_lay (zRn 10) (zTb 10) 49 ∈ zT := zT_6 (List.mem_of_getElem? (i := 114) rfl) rfl
theorem zly10_50 : u_lay (zRn 10) (zTb 10) 50 ∈ zT := zT_6 (List.mem_of_getElem? (i := 116) rfl) rfl
theorem zly10_51 : u_lay (zRn 10) (zTb 10) 51 ∈ zT := zT_6 (List.mem_of_getElem? (i := 118) rfl) rfl
theorem zly10_52 : u_lay (zRn 10) (zTb 10) 52 ∈ zT := zT_6 (List.mem_of_getElem? (i := 120) rfl) rfl
theorem zly10_53 : u_lay (zRn 10) (zTb 10) 53 ∈ zT := zT_6 (List.mem_of_getElem? (i := 122) rfl) rfl
theorem zly10_54 : u_lay (zRn 10) (zTb 10) 54 ∈ zT := zT_6 (List.mem_of_getElem? (i := 124) rfl) rfl
theorem zly10_55 : u_lay (zRn 10) (zTb 10) 55 ∈ zT := zT_6 (List.mem_of_getElem? (i := 126) rfl) rfl
theorem zly10_56 : u_lay (zRn 10) (zTb 10) 56 ∈ zT := zT_6 (List.mem_of_getElem? (i := 128) rfl) rfl
theorem zly10_57 : u_lay (zRn 10) (zTb 10) 57 ∈ zT := zT_6 (List.mem_of_getElem? (i := 130) rfl) rfl
theorem zly10_58 : u_lay (zRn 10) (zTb 10) 58 ∈ zT := zT_6 (List.mem_of_getElem? (i := 132) rfl) rfl
theorem zly10_59 : u_lay (zRn 10) (zTb 10) 59 ∈ zT := zT_6 (List.mem_of_getElem? (i := 134) rfl) rfl
theorem zly10_60 : u_lay (zRn 10) (zTb 10) 60 ∈ zT := zT_6 (List.mem_of_getElem? (i := 136) rfl) rfl
theorem zly10_61 : u_lay (zRn 10) (zTb 10) 61 ∈ zT := zT_6 (List.mem_of_getElem? (i := 138) rfl) rfl
theorem zly10_62 : u_lay (zRn 10) (zTb 10) 62 ∈ zT := zT_6 (List.mem_of_getElem? (i := 140) rfl) rfl
theorem zly10_63 : u_lay (zRn 10) (zTb 10) 63 ∈ zT := zT_6 (List.mem_of_getElem? (i := 142) rfl) rfl
theorem zly10_64 : u_lay (zRn 10) (zTb 10) 64 ∈ zT := zT_6 (List.mem_of_getElem? (i := 144) rfl) rfl
theorem zly10_65 : u_lay (zRn 10) (zTb 10) 65 ∈ zT := zT_6 (List.mem_of_getElem? (i := 146) rfl) rfl
theorem zly10_66 : u_lay (zRn 10) (zTb 10) 66 ∈ zT := zT_6 (List.mem_of_getElem? (i := 148) rfl) rfl
theorem zly10 : ∀ k, k < zNf 10 → u_lay (zRn 10) (zTb 10) k ∈ zT := fun k hk => match k, hk with
  | 0, _ => zly10_0
  | 1, _ => zly10_1
  | 2, _ => zly10_2
  | 3, _ => zly10_3
  | 4, _ => zly10_4
  | 5, _ => zly10_5
  | 6, _ => zly10_6
  | 7, _ => zly10_7
  | 8, _ => zly10_8
  | 9, _ => zly10_9
  | 10, _ => zly10_10
  | 11, _ => zly10_11
  | 12, _ => zly10_12
  | 13, _ => zly10_13
  | 14, _ => zly10_14
  | 15, _ => zly10_15
  | 16, _ => zly10_16
  | 17, _ => zly10_17
  | 18, _ => zly10_18
  | 19, _ => zly10_19
  | 20, _ => zly10_20
  | 21, _ => zly10_21
  | 22, _ => zly10_22
  | 23, _ => zly10_23
  | 24, _ => zly10_24
  | 25, _ => zly10_25
  | 26, _ => zly10_26
  | 27, _ => zly10_27
  | 28, _ => zly10_28
  | 29, _ => zly10_29
  | 30, _ => zly10_30
  | 31, _ => zly10_31
  | 32, _ => zly10_32
  | 33, _ => zly10_33
  | 34, _ => zly10_34
  | 35, _ => zly10_35
  | 36, _ => zly10_36
  | 37, _ => zly10_37
  | 38, _ => zly10_38
  | 39, _ => zly10_39
  | 40, _ => zly10_40
  | 41, _ => zly10_41
  | 42, _ => zly10_42
  | 43, _ => zly10_43
  | 44, _ => zly10_44
  | 45, _ => zly10_45
  | 46, _ => zly10_46
  | 47, _ => zly10_47
  | 48, _ => zly10_48
  | 49, _ => zly10_49
  | 50, _ => zly10_50
  | 51, _ => zly10_51
  | 52, _ => zly10_52
  | 53, _ => zly10_53
  | 54, _ => zly10_54
  | 55, _ => zly10_55
  | 56, _ => zly10_56
  | 57, _ => zly10_57
  | 58, _ => zly10_58
  | 59, _ => zly10_59
  | 60, _ => zly10_60
  | 61, _ => zly10_61
  | 62, _ => zly10_62
  | 63, _ => zly10_63
  | 64, _ => zly10_64
  | 65, _ => zly10_65
  | 66, _ => zly10_66
  | j + 67, h => absurd h (by show ¬ (j + 67 < 67); omega)
theorem wFX9_10 : Cond.fieldLink RX9 10 (zTb 9 0).1 (zTb 9 0).2.1 (zTb 9 0).2.2.1 ∈ zT := zT_2 (List.mem_of_getElem? (i := 105) rfl) rfl
theorem wFX9_19 : Cond.fieldLink RX9 19 (zTb 9 1).1 (zTb 9 1).2.1 (zTb 9 1).2.2.1 ∈ zT := zT_2 (List.mem_of_getElem? (i := 106) rfl) rfl
theorem wFX9_23 : Cond.fieldLink RX9 23 (zTb 9 2).1 (zTb 9 2).2.1 (zTb 9 2).2.2.1 ∈ zT := zT_2 (List.mem_of_getElem? (i := 107) rfl) rfl
theorem wFX9_29 : Cond.fieldLink RX9 29 (zTb 9 3).1 (zTb 9 3).2.1 (zTb 9 3).2.2.1 ∈ zT := zT_2 (List.mem_of_getElem? (i := 108) rfl) rfl
theorem wFX9_33 : Cond.fieldLink RX9 33 (zTb 9 4).1 (zTb 9 4).2.1 (zTb 9 4).2.2.1 ∈ zT := zT_2 (List.mem_of_getElem? (i := 109) rfl) rfl
theorem wFX9_39 : Cond.fieldLink RX9 39 (zTb 9 5).1 (zTb 9 5).2.1 (zTb 9 5).2.2.1 ∈ zT := zT_2 (List.mem_of_getElem? (i := 110) rfl) rfl
theorem wFX9_43 : Cond.fieldLink RX9 43 (zTb 9 6).1 (zTb 9 6).2.1 (zTb 9 6).2.2.1 ∈ zT := zT_2 (List.mem_of_getElem? (i := 111) rfl) rfl
theorem wFX9_49 : Cond.fieldLink RX9 49 (zTb 9 7).1 (zTb 9 7).2.1 (zTb 9 7).2.2.1 ∈ zT := zT_2 (List.mem_of_getElem? (i := 112) rfl) rfl
theorem wFX9_56 : Cond.fieldLink RX9 56 (zTb 9 8).1 (zTb 9 8).2.1 (zTb 9 8).2.2.1 ∈ zT := zT_2 (List.mem_of_getElem? (i := 113) rfl) rfl
theorem wFX9_60 : Cond.fieldLink RX9 60 (zTb 9 9).1 (zTb 9 9).2.1 (zTb 9 9).2.2.1 ∈ zT := zT_2 (List.mem_of_getElem? (i := 114) rfl) rfl
theorem wFX9_66 : Cond.fieldLink RX9 66 (zTb 9 10).1 (zTb 9 10).2.1 (zTb 9 10).2.2.1 ∈ zT := zT_2 (List.mem_of_getElem? (i := 115) rfl) rfl
theorem wFX9_70 : Cond.fieldLink RX9 70 (zTb 9 11).1 (zTb 9 11).2.1 (zTb 9 11).2.2.1 ∈ zT := zT_2 (List.mem_of_getElem? (i := 116) rfl) rfl
theorem wFX9_83 : Cond.fieldLink RX9 83 (zTb 8 1).1 (zTb 8 1).2.1 (zTb 8 1).2.2.1 ∈ zT := zT_1 (List.mem_of_getElem? (i := 34) rfl) rfl
theorem wFX9_98 : Cond.fieldLink RX9 98 (zTb 6 3).1 (zTb 6 3).2.1 (zTb 6 3).2.2.1 ∈ zT := zT_1 (List.mem_of_getElem? (i := 194) rfl) rfl
theorem wFX9_101 : Cond.fieldLink RX9 101 (zTb 5 3).1 (zTb 5 3).2.1 (zTb 5 3).2.2.1 ∈ zT := zT_2 (List.mem_of_getElem? (i := 13) rfl) rfl
theorem wFX9_102 : Cond.fieldLink RX9 102 (zTb 2 3).1 (zTb 2 3).2.1 (zTb 2 3).2.2.1 ∈ zT := zT_2 (List.mem_of_getElem? (i := 84) rfl) rfl
theorem wFX9_115 : Cond.fieldLink RX9 115 (zTb 0 0).1 (zTb 0 0).2.1 (zTb 0 0).2.2.1 ∈ zT := zT_1 (List.mem_of_getElem? (i := 106) rfl) rfl
theorem wFX9_119 : Cond.fieldLink RX9 119 (zTb 3 1).1 (zTb 3 1).2.1 (zTb 3 1).2.2.1 ∈ zT := zT_1 (List.mem_of_getElem? (i := 78) rfl) rfl
theorem wFX9_122 : Cond.fieldLink RX9 122 (zTb 0 1).1 (zTb 0 1).2.1 (zTb 0 1).2.2.1 ∈ zT := zT_1 (List.mem_of_getElem? (i := 109) rfl) rfl
theorem wFX9_125 : Cond.fieldLink RX9 125 (zTb 0 2).1 (zTb 0 2).2.1 (zTb 0 2).2.2.1 ∈ zT := zT_1 (List.mem_of_getElem? (i := 114) rfl) rfl
theorem wFX9_128 : Cond.fieldLink RX9 128 (zTb 0 3).1 (zTb 0 3).2.1 (zTb 0 3).2.2.1 ∈ zT := zT_1 (List.mem_of_getElem? (i := 119) rfl) rfl
theorem wFX9_135 : Cond.fieldLink RX9 135 (zTb 7 0).1 (zTb 7 0).2.1 (zTb 7 0).2.2.1 ∈ zT := zT_1 (List.mem_of_getElem? (i := 212) rfl) rfl
theorem wFX9_138 : Cond.fieldLink RX9 138 (zTb 0 5).1 (zTb 0 5).2.1 (zTb 0 5).2.2.1 ∈ zT := zT_1 (List.mem_of_getElem? (i := 124) rfl) rfl
theorem wFX9_141 : Cond.fieldLink RX9 141 (zTb 7 1).1 (zTb 7 1).2.1 (zTb 7 1).2.2.1 ∈ zT := zT_1 (List.mem_of_getElem? (i := 215) rfl) rfl
theorem wFX9_148 : Cond.fieldLink RX9 148 (zTb 7 2).1 (zTb 7 2).2.1 (zTb 7 2).2.2.1 ∈ zT := zT_1 (List.mem_of_getElem? (i := 218) rfl) rfl
theorem wFX9_154 : Cond.fieldLink RX9 154 (zTb 0 6).1 (zTb 0 6).2.1 (zTb 0 6).2.2.1 ∈ zT := zT_1 (List.mem_of_getElem? (i := 128) rfl) rfl
theorem wFX9_160 : Cond.fieldLink RX9 160 (zTb 0 9).1 (zTb 0 9).2.1 (zTb 0 9).2.2.1 ∈ zT := zT_1 (List.mem_of_getElem? (i := 136) rfl) rfl
theorem wFX9_163 : Cond.fieldLink RX9 163 (zTb 7 3).1 (zTb 7 3).2.1 (zTb 7 3).2.2.1 ∈ zT := zT_1 (List.mem_of_getElem? (i := 221) rfl) rfl
theorem wFX9_166 : Cond.fieldLink RX9 166 (zTb 7 4).1 (zTb 7 4).2.1 (zTb 7 4).2.2.1 ∈ zT := zT_1 (List.mem_of_getElem? (i := 224) rfl) rfl
theorem wFX9_172 : Cond.fieldLink RX9 172 (zTb 0 10).1 (zTb 0 10).2.1 (zTb 0 10).2.2.1 ∈ zT := zT_1 (List.mem_of_getElem? (i := 140) rfl) rfl
theorem wFX9_175 : Cond.fieldLink RX9 175 (zTb 0 11).1 (zTb 0 11).2.1 (zTb 0 11).2.2.1 ∈ zT := zT_1 (List.mem_of_getElem? (i := 142) rfl) rfl
theorem wFX9_178 : Cond.fieldLink RX9 178 (zTb 0 15).1 (zTb 0 15).2.1 (zTb 0 15).2.2.1 ∈ zT := zT_1 (List.mem_of_getElem? (i := 147) rfl) rfl
theorem wFX9_181 : Cond.fieldLink RX9 181 (zTb 7 5).1 (zTb 7 5).2.1 (zTb 7 5).2.2.1 ∈ zT := zT_1 (List.mem_of_getElem? (i := 226) rfl) rfl
theorem wFX9_192 : Cond.fieldLink RX9 192 (zTb 9 12).1 (zTb 9 12).2.1 (zTb 9 12).2.2.1 ∈ zT := zT_2 (List.mem_of_getElem? (i := 117) rfl) rfl
theorem wFX9_216 : Cond.fieldLink RX9 216 (zTb 9 13).1 (zTb 9 13).2.1 (zTb 9 13).2.2.1 ∈ zT := zT_2 (List.mem_of_getElem? (i := 118) rfl) rfl
theorem wFX9_237 : Cond.fieldLink RX9 237 (zTb 2 0).1 (zTb 2 0).2.1 (zTb 2 0).2.2.1 ∈ zT := zT_2 (List.mem_of_getElem? (i := 78) rfl) rfl
theorem wFX9_240 : Cond.fieldLink RX9 240 (zTb 2 1).1 (zTb 2 1).2.1 (zTb 2 1).2.2.1 ∈ zT := zT_2 (List.mem_of_getElem? (i := 80) rfl) rfl
theorem wFX9_244 : Cond.fieldLink RX9 244 (zTb 2 2).1 (zTb 2 2).2.1 (zTb 2 2).2.2.1 ∈ zT := zT_2 (List.mem_of_getElem? (i := 82) rfl) rfl
theorem wFX9_248 : Cond.fieldLink RX9 248 (zTb 6 0).1 (zTb 6 0).2.1 (zTb 6 0).2.2.1 ∈ zT := zT_1 (List.mem_of_getElem? (i := 188) rfl) rfl
theorem wFX9_251 : Cond.fieldLink RX9 251 (zTb 6 1).1 (zTb 6 1).2.1 (zTb 6 1).2.2.1 ∈ zT := zT_1 (List.mem_of_getElem? (i := 190) rfl) rfl
theorem wFX9_254 : Cond.fieldLink RX9 254 (zTb 6 2).1 (zTb 6 2).2.1 (zTb 6 2).2.2.1 ∈ zT := zT_1 (List.mem_of_getElem? (i := 192) rfl) rfl
theorem wFX9_298 : Cond.fieldLink RX9 298 (zTb 4 7).1 (zTb 4 7).2.1 (zTb 4 7).2.2.1 ∈ zT := zT_2 (List.mem_of_getElem? (i := 41) rfl) rfl
theorem wFX9_301 : Cond.fieldLink RX9 301 (zTb 4 8).1 (zTb 4 8).2.1 (zTb 4 8).2.2.1 ∈ zT := zT_2 (List.mem_of_getElem? (i := 43) rfl) rfl
theorem wFX9_304 : Cond.fieldLink RX9 304 (zTb 4 5).1 (zTb 4 5).2.1 (zTb 4 5).2.2.1 ∈ zT := zT_2 (List.mem_of_getElem? (i := 38) rfl) rfl
theorem wFX9_340 : Cond.fieldLink RX9 340 (zTb 5 0).1 (zTb 5 0).2.1 (zTb 5 0).2.2.1 ∈ zT := zT_2 (List.mem_of_getElem? (i := 7) rfl) rfl
theorem wFX9_347 : Cond.fieldLink RX9 347 (zTb 5 1).1 (zTb 5 1).2.1 (zTb 5 1).2.2.1 ∈ zT := zT_2 (List.mem_of_getElem? (i := 9) rfl) rfl
theorem wFX9_348 : Cond.fieldLink RX9 348 (zTb 5 2).1 (zTb 5 2).2.1 (zTb 5 2).2.2.1 ∈ zT := zT_2 (List.mem_of_getElem? (i := 11) rfl) rfl
theorem wFX9_386 : Cond.fieldLink RX9 386 (zTb 9 14).1 (zTb 9 14).2.1 (zTb 9 14).2.2.1 ∈ zT := zT_2 (List.mem_of_getElem? (i := 119) rfl) rfl
theorem wFX0_14 : Cond.fieldLink RX0 14 (zTb 0 0).1 (zTb 0 0).2.1 (zTb 0 0).2.2.1 ∈ zT := zT_1 (List.mem_of_getElem? (i := 104) rfl) rfl
theorem wFX0_20 : Cond.fieldLink RX0 20 (zTb 0 1).1 (zTb 0 1).2.1 (zTb 0 1).2.2.1 ∈ zT := zT_1 (List.mem_of_getElem? (i := 108) rfl) rfl
theorem wFX0_23 : Cond.fieldLink RX0 23 (zTb 0 2).1 (zTb 0 2).2.1 (zTb 0 2).2.2.1 ∈ zT := zT_1 (List.mem_of_getElem? (i := 111) rfl) rfl
theorem wFX0_26 : Cond.fieldLink RX0 26 (zTb 0 3).1 (zTb 0 3).2.1 (zTb 0 3).2.2.1 ∈ zT := zT_1 (List.mem_of_getElem? (i := 116) rfl) rfl
theorem wFX0_29 : Cond.fieldLink RX0 29 (zTb 0 4).1 (zTb 0 4).2.1 (zTb 0 4).2.2.1 ∈ zT := zT_1 (List.mem_of_getElem? (i := 121) rfl) rfl
theorem wFX0_33 : Cond.fieldLink RX0 33 (zTb 0 5).1 (zTb 0 5).2.1 (zTb 0 5).2.2.1 ∈ zT := zT_1 (List.mem_of_getElem? (i := 123) rfl) rfl
theorem wFX0_36 : Cond.fieldLink RX0 36 (zTb 0 6).1 (zTb 0 6).2.1 (zTb 0 6).2.2.1 ∈ zT := zT_1 (List.mem_of_getElem? (i := 125) rfl) rfl
theorem wFX0_39 : Cond.fieldLink RX0 39 (zTb 0 7).1 (zTb 0 7).2.1 (zTb 0 7).2.2.1 ∈ zT := zT_1 (List.mem_of_getElem? (i := 129) rfl) rfl
theorem wFX0_42 : Cond.fieldLink RX0 42 (zTb 0 8).1 (zTb 0 8).2.1 (zTb 0 8).2.2.1 ∈ zT := zT_1 (List.mem_of_getElem? (i := 131) rfl) rfl
theorem wFX0_45 : Cond.fieldLink RX0 45 (zTb 0 9).1 (zTb 0 9).2.1 (zTb 0 9).2.2.1 ∈ zT := zT_1 (List.mem_of_getElem? (i := 133) rfl) rfl
theorem wFX0_48 : Cond.fieldLink RX0 48 (zTb 0 10).1 (zTb 0 10).2.1 (zTb 0 10).2.2.1 ∈ zT := zT_1 (List.mem_of_getElem? (i := 137) rfl) rfl
theorem wFX0_51 : Cond.fieldLink RX0 51 (zTb 0 11).1 (zTb 0 11).2.1 (zTb 0 11).2.2.1 ∈ zT := zT_1 (List.mem_of_getElem? (i := 141) rfl) rfl
theorem wFX0_54 : Cond.fieldLink RX0 54 (zTb 0 12).1 (zTb 0 12).2.1 (zTb 0 12).2.2.1 ∈ zT := zT_1 (List.mem_of_getElem? (i := 143) rfl) rfl
theorem wFX0_60 : Cond.fieldLink RX0 60 (zTb 0 13).1 (zTb 0 13).2.1 (zTb 0 13).2.2.1 ∈ zT := zT_1 (List.mem_of_getElem? (i := 144) rfl) rfl
theorem wFX0_76 : Cond.fieldLink RX0 76 (zTb 8 4).1 (zTb 8 4).2.1 (zTb 8 4).2.2.1 ∈ zT := zT_1 (List.mem_of_getElem? (i := 39) rfl) rfl
theorem wFX0_84 : Cond.fieldLink RX0 84 (zTb 3 1).1 (zTb 3 1).2.1 (zTb 3 1).2.2.1 ∈ zT := zT_1 (List.mem_of_getElem? (i := 76) rfl) rfl
theorem wFX0_87 : Cond.fieldLink RX0 87 (zTb 0 14).1 (zTb 0 14).2.1 (zTb 0 14).2.2.1 ∈ zT := zT_1 (List.mem_of_getElem? (i := 145) rfl) rfl
theorem wFX0_90 : Cond.fieldLink RX0 90 (zTb 0 15).1 (zTb 0 15).2.1 (zTb 0 15).2.2.1 ∈ zT := zT_1 (List.mem_of_getElem? (i := 146) rfl) rfl
theorem wFX0_93 : Cond.fieldLink RX0 93 (zTb 1 2).1 (zTb 1 2).2.1 (zTb 1 2).2.2.1 ∈ zT := zT_1 (List.mem_of_getElem? (i := 95) rfl) rfl
theorem wFX0_142 : Cond.fieldLink RX0 142 (zTb 8 5).1 (zTb 8 5).2.1 (zTb 8 5).2.2.1 ∈ zT := zT_1 (List.mem_of_getElem? (i := 42) rfl) rfl
theorem wFX0_185 : Cond.fieldLink RX0 185 (zTb 8 3).1 (zTb 8 3).2.1 (zTb 8 3).2.2.1 ∈ zT := zT_1 (List.mem_of_getElem? (i := 38) rfl) rfl
theorem wFX1_9 : Cond.fieldLink RX1 9 (zTb 1 0).1 (zTb 1 0).2.1 (zTb 1 0).2.2.1 ∈ zT := zT_1 (List.mem_of_getElem? (i := 92) rfl) rfl
theorem wFX1_15 : Cond.fieldLink RX1 15 (zTb 1 1).1 (zTb 1 1).2.1 (zTb 1 1).2.2.1 ∈ zT := zT_1 (List.mem_of_getElem? (i := 93) rfl) rfl
theorem wFX1_18 : Cond.fieldLink RX1 18 (zTb 1 2).1 (zTb 1 2).2.1 (zTb 1 2).2.2.1 ∈ zT := zT_1 (List.mem_of_getElem? (i := 94) rfl) rfl
theorem wFX1_76 : Cond.fieldLink RX1 76 (zTb 8 5).1 (zTb 8 5).2.1 (zTb 8 5).2.2.1 ∈ zT := zT_1 (List.mem_of_getElem? (i := 43) rfl) rfl
theorem wFX2_10 : Cond.fieldLink RX2 10 (zTb 2 0).1 (zTb 2 0).2.1 (zTb 2 0).2.2.1 ∈ zT := zT_2 (List.mem_of_getElem? (i := 77) rfl) rfl
theorem wFX2_19 : Cond.fieldLink RX2 19 (zTb 2 1).1 (zTb 2 1).2.1 (zTb 2 1).2.2.1 ∈ zT := zT_2 (List.mem_of_getElem? (i := 79) rfl) rfl
theorem wFX2_26 : Cond.fieldLink RX2 26 (zTb 2 2).1 (zTb 2 2).2.1 (zTb 2 2).2.2.1 ∈ zT := zT_2 (List.mem_of_getElem? (i := 81) rfl) rfl
theorem wFX2_40 : Cond.fieldLink RX2 40 (zTb 2 3).1 (zTb 2 3).2.1 (zTb 2 3).2.2.1 ∈ zT := zT_2 (List.mem_of_getElem? (i := 83) rfl) rfl
theorem wFX3_9 : Cond.fieldLink RX3 9 (zTb 3 0).1 (zTb 3 0).2.1 (zTb 3 0).2.2.1 ∈ zT := zT_1 (List.mem_of_getElem? (i := 74) rfl) rfl
theorem wFX3_15 : Cond.fieldLink RX3 15 (zTb 3 1).1 (zTb 3 1).2.1 (zTb 3 1).2.2.1 ∈ zT := zT_1 (List.mem_of_getElem? (i := 75) rfl) rfl
theorem wFX4_12 : Cond.fieldLink RX4 12 (zTb 4 0).1 (zTb 4 0).2.1 (zTb 4 0).2.2.1 ∈ zT := zT_2 (List.mem_of_getElem? (i := 32) rfl) rfl
theorem wFX4_18 : Cond.fieldLink RX4 18 (zTb 4 1).1 (zTb 4 1).2.1 (zTb 4 1).2.2.1 ∈ zT := zT_2 (List.mem_of_getElem? (i := 33) rfl) rfl
theorem wFX4_22 : Cond.fieldLink RX4 22 (zTb 4 2).1 (zTb 4 2).2.1 (zTb 4 2).2.2.1 ∈ zT := zT_2 (List.mem_of_getElem? (i := 34) rfl) rfl
theorem wFX4_25 : Cond.fieldLink RX4 25 (zTb 4 3).1 (zTb 4 3).2.1 (zTb 4 3).2.2.1 ∈ zT := zT_2 (List.mem_of_getElem? (i := 35) rfl) rfl
theorem wFX4_28 : Cond.fieldLink RX4 28 (zTb 4 4).1 (zTb 4 4).2.1 (zTb 4 4).2.2.1 ∈ zT := zT_2 (List.mem_of_getElem? (i := 36) rfl) rfl
theorem wFX4_31 : Cond.fieldLink RX4 31 (zTb 4 5).1 (zTb 4 5).2.1 (zTb 4 5).2.2.1 ∈ zT := zT_2 (List.mem_of_getElem? (i := 37) rfl) rfl
theorem wFX4_34 : Cond.fieldLink RX4 34 (zTb 4 6).1 (zTb 4 6).2.1 (zTb 4 6).2.2.1 ∈ zT := zT_2 (List.mem_of_getElem? (i := 39) rfl) rfl
theorem wFX4_46 : Cond.fieldLink RX4 46 (zTb 7 0).1 (zTb 7 0).2.1 (zTb 7 0).2.2.1 ∈ zT := zT_1 (List.mem_of_getElem? (i := 211) rfl) rfl
theorem wFX4_53 : Cond.fieldLink RX4 53 (zTb 7 1).1 (zTb 7 1).2.1 (zTb 7 1).2.2.1 ∈ zT := zT_1 (List.mem_of_getElem? (i := 214) rfl) rfl
theorem wFX4_60 : Cond.fieldLink RX4 60 (zTb 0 9).1 (zTb 0 9).2.1 (zTb 0 9).2.2.1 ∈ zT := zT_1 (List.mem_of_getElem? (i := 134) rfl) rfl
theorem wFX4_65 : Cond.fieldLink RX4 65 (zTb 7 3).1 (zTb 7 3).2.1 (zTb 7 3).2.2.1 ∈ zT := zT_1 (List.mem_of_getElem? (i := 220) rfl) rfl
theorem wFX4_68 : Cond.fieldLink RX4 68 (zTb 7 2).1 (zTb 7 2).2.1 (zTb 7 2).2.2.1 ∈ zT := zT_1 (List.mem_of_getElem? (i := 217) rfl) rfl
theorem wFX4_79 : Cond.fieldLink RX4 79 (zTb 7 4).1 (zTb 7 4).2.1 (zTb 7 4).2.2.1 ∈ zT := zT_1 (List.mem_of_getElem? (i := 223) rfl) rfl
theorem wFX4_82 : Cond.fieldLink RX4 82 (zTb 0 10).1 (zTb 0 10).2.1 (zTb 0 10).2.2.1 ∈ zT := zT_1 (List.mem_of_getElem? (i := 139) rfl) rfl
theorem wFX4_88 : Cond.fieldLink RX4 88 (zTb 0 6).1 (zTb 0 6).2.1 (zTb 0 6).2.2.1 ∈ zT := zT_1 (List.mem_of_getElem? (i := 127) rfl) rfl
theorem wFX4_98 : Cond.fieldLink RX4 98 (zTb 0 2).1 (zTb 0 2).2.1 (zTb 0 2).2.2.1 ∈ zT := zT_1 (List.mem_of_getElem? (i := 115) rfl) rfl
theorem wFX4_102 : Cond.fieldLink RX4 102 (zTb 3 1).1 (zTb 3 1).2.1 (zTb 3 1).2.2.1 ∈ zT := zT_1 (List.mem_of_getElem? (i := 79) rfl) rfl
theorem wFX4_107 : Cond.fieldLink RX4 107 (zTb 0 3).1 (zTb 0 3).2.1 (zTb 0 3).2.2.1 ∈ zT := zT_1 (List.mem_of_getElem? (i := 120) rfl) rfl
theorem wFX4_114 : Cond.fieldLink RX4 114 (zTb 4 7).1 (zTb 4 7).2.1 (zTb 4 7).2.2.1 ∈ zT := zT_2 (List.mem_of_getElem? (i := 40) rfl) rfl
theorem wFX4_127 : Cond.fieldLink RX4 127 (zTb 4 8).1 (zTb 4 8).2.1 (zTb 4 8).2.2.1 ∈ zT := zT_2 (List.mem_of_getElem? (i := 42) rfl) rfl
theorem wFX5_9 : Cond.fieldLink RX5 9 (zTb 5 0).1 (zTb 5 0).2.1 (zTb 5 0).2.2.1 ∈ zT := zT_2 (List.mem_of_getElem? (i := 6) rfl) rfl
theorem wFX5_15 : Cond.fieldLink RX5 15 (zTb 5 1).1 (zTb 5 1).2.1 (zTb 5 1).2.2.1 ∈ zT := zT_2 (List.mem_of_getElem? (i := 8) rfl) rfl
theorem wFX5_18 : Cond.fieldLink RX5 18 (zTb 5 2).1 (zTb 5 2).2.1 (zTb 5 2).2.2.1 ∈ zT := zT_2 (List.mem_of_getElem? (i := 10) rfl) rfl
theorem wFX5_22 : Cond.fieldLink RX5 22 (zTb 5 3).1 (zTb 5 3).2.1 (zTb 5 3).2.2.1 ∈ zT := zT_2 (List.mem_of_getElem? (i := 12) rfl) rfl
theorem wFX6_9 : Cond.fieldLink RX6 9 (zTb 6 0).1 (zTb 6 0).2.1 (zTb 6 0).2.2.1 ∈ zT := zT_1 (List.mem_of_getElem? (i := 187) rfl) rfl
theorem wFX6_15 : Cond.fieldLink RX6 15 (zTb 6 1).1 (zTb 6 1).2.1 (zTb 6 1).2.2.1 ∈ zT := zT_1 (List.mem_of_getElem? (i := 189) rfl) rfl
theorem wFX6_18 : Cond.fieldLink RX6 18 (zTb 6 2).1 (zTb 6 2).2.1 (zTb 6 2).2.2.1 ∈ zT := zT_1 (List.mem_of_getElem? (i := 191) rfl) rfl
theorem wFX6_27 : Cond.fieldLink RX6 27 (zTb 6 3).1 (zTb 6 3).2.1 (zTb 6 3).2.2.1 ∈ zT := zT_1 (List.mem_of_getElem? (i := 193) rfl) rfl
theorem wFX6_40 : Cond.fieldLink RX6 40 (zTb 8 4).1 (zTb 8 4).2.1 (zTb 8 4).2.2.1 ∈ zT := zT_1 (List.mem_of_getElem? (i := 40) rfl) rfl
theorem wFX6_58 : Cond.fieldLink RX6 58 (zTb 0 3).1 (zTb 0 3).2.1 (zTb 0 3).2.2.1 ∈ zT := zT_1 (List.mem_of_getElem? (i := 117) rfl) rfl
theorem wFX6_68 : Cond.fieldLink RX6 68 (zTb 0 2).1 (zTb 0 2).2.1 (zTb 0 2).2.2.1 ∈ zT := zT_1 (List.mem_of_getElem? (i := 112) rfl) rfl
theorem wFX6_71 : Cond.fieldLink RX6 71 (zTb 0 0).1 (zTb 0 0).2.1 (zTb 0 0).2.2.1 ∈ zT := zT_1 (List.mem_of_getElem? (i := 105) rfl) rfl
theorem wFX7_9 : Cond.fieldLink RX7 9 (zTb 7 0).1 (zTb 7 0).2.1 (zTb 7 0).2.2.1 ∈ zT := zT_1 (List.mem_of_getElem? (i := 210) rfl) rfl
theorem wFX7_15 : Cond.fieldLink RX7 15 (zTb 7 1).1 (zTb 7 1).2.1 (zTb 7 1).2.2.1 ∈ zT := zT_1 (List.mem_of_getElem? (i := 213) rfl) rfl
theorem wFX7_18 : Cond.fieldLink RX7 18 (zTb 7 2).1 (zTb 7 2).2.1 (zTb 7 2).2.2.1 ∈ zT := zT_1 (List.mem_of_getElem? (i := 216) rfl) rfl
theorem wFX7_21 : Cond.fieldLink RX7 21 (zTb 7 3).1 (zTb 7 3).2.1 (zTb 7 3).2.2.1 ∈ zT := zT_1 (List.mem_of_getElem? (i := 219) rfl) rfl
theorem wFX7_24 : Cond.fieldLink RX7 24 (zTb 7 4).1 (zTb 7 4).2.1 (zTb 7 4).2.2.1 ∈ zT := zT_1 (List.mem_of_getElem? (i := 222) rfl) rfl
theorem wFX7_27 : Cond.fieldLink RX7 27 (zTb 0 4).1 (zTb 0 4).2.1 (zTb 0 4).2.2.1 ∈ zT := zT_1 (List.mem_of_getElem? (i := 122) rfl) rfl
theorem wFX7_36 : Cond.fieldLink RX7 36 (zTb 0 7).1 (zTb 0 7).2.1 (zTb 0 7).2.2.1 ∈ zT := zT_1 (List.mem_of_getElem? (i := 130) rfl) rfl
theorem wFX7_39 : Cond.fieldLink RX7 39 (zTb 0 8).1 (zTb 0 8).2.1 (zTb 0 8).2.2.1 ∈ zT := zT_1 (List.mem_of_getElem? (i := 132) rfl) rfl
theorem wFX7_45 : Cond.fieldLink RX7 45 (zTb 7 5).1 (zTb 7 5).2.1 (zTb 7 5).2.2.1 ∈ zT := zT_1 (List.mem_of_getElem? (i := 225) rfl) rfl
theorem wFX7_49 : Cond.fieldLink RX7 49 (zTb 0 2).1 (zTb 0 2).2.1 (zTb 0 2).2.2.1 ∈ zT := zT_1 (List.mem_of_getElem? (i := 113) rfl) rfl
theorem wFX7_53 : Cond.fieldLink RX7 53 (zTb 3 1).1 (zTb 3 1).2.1 (zTb 3 1).2.2.1 ∈ zT := zT_1 (List.mem_of_getElem? (i := 77) rfl) rfl
theorem wFX7_62 : Cond.fieldLink RX7 62 (zTb 0 3).1 (zTb 0 3).2.1 (zTb 0 3).2.2.1 ∈ zT := zT_1 (List.mem_of_getElem? (i := 118) rfl) rfl
theorem wFX7_75 : Cond.fieldLink RX7 75 (zTb 0 0).1 (zTb 0 0).2.1 (zTb 0 0).2.2.1 ∈ zT := zT_1 (List.mem_of_getElem? (i := 107) rfl) rfl
theorem wFX7_82 : Cond.fieldLink RX7 82 (zTb 0 9).1 (zTb 0 9).2.1 (zTb 0 9).2.2.1 ∈ zT := zT_1 (List.mem_of_getElem? (i := 135) rfl) rfl
theorem wFX7_85 : Cond.fieldLink RX7 85 (zTb 0 10).1 (zTb 0 10).2.1 (zTb 0 10).2.2.1 ∈ zT := zT_1 (List.mem_of_getElem? (i := 138) rfl) rfl
theorem wFX7_88 : Cond.fieldLink RX7 88 (zTb 0 6).1 (zTb 0 6).2.1 (zTb 0 6).2.2.1 ∈ zT := zT_1 (List.mem_of_getElem? (i := 126) rfl) rfl
theorem wFX7_120 : Cond.fieldLink RX7 120 (zTb 0 1).1 (zTb 0 1).2.1 (zTb 0 1).2.2.1 ∈ zT := zT_1 (List.mem_of_getElem? (i := 110) rfl) rfl
theorem wFX8_9 : Cond.fieldLink RX8 9 (zTb 8 0).1 (zTb 8 0).2.1 (zTb 8 0).2.2.1 ∈ zT := zT_1 (List.mem_of_getElem? (i := 33) rfl) rfl
theorem wFX8_21 : Cond.fieldLink RX8 21 (zTb 8 1).1 (zTb 8 1).2.1 (zTb 8 1).2.2.1 ∈ zT := zT_1 (List.mem_of_getElem? (i := 35) rfl) rfl
theorem wFX8_25 : Cond.fieldLink RX8 25 (zTb 8 2).1 (zTb 8 2).2.1 (zTb 8 2).2.2.1 ∈ zT := zT_1 (List.mem_of_getElem? (i := 36) rfl) rfl
theorem wFX8_28 : Cond.fieldLink RX8 28 (zTb 8 6).1 (zTb 8 6).2.1 (zTb 8 6).2.2.1 ∈ zT := zT_1 (List.mem_of_getElem? (i := 45) rfl) rfl
theorem wFX8_34 : Cond.fieldLink RX8 34 (zTb 8 3).1 (zTb 8 3).2.1 (zTb 8 3).2.2.1 ∈ zT := zT_1 (List.mem_of_getElem? (i := 37) rfl) rfl
theorem wFX8_41 : Cond.fieldLink RX8 41 (zTb 8 5).1 (zTb 8 5).2.1 (zTb 8 5).2.2.1 ∈ zT := zT_1 (List.mem_of_getElem? (i := 44) rfl) rfl
theorem wFX8_45 : Cond.fieldLink RX8 45 (zTb 8 4).1 (zTb 8 4).2.1 (zTb 8 4).2.2.1 ∈ zT := zT_1 (List.mem_of_getElem? (i := 41) rfl) rfl
theorem wFX10_7 : Cond.fieldLink RX10 7 (zTb 10 2).1 (zTb 10 2).2.1 (zTb 10 2).2.2.1 ∈ zT := zT_5 (List.mem_of_getElem? (i := 191) rfl) rfl
theorem wFX10_13 : Cond.fieldLink RX10 13 (zTb 10 10).1 (zTb 10 10).2.1 (zTb 10 10).2.2.1 ∈ zT := zT_5 (List.mem_of_getElem? (i := 199) rfl) rfl
theorem wFX10_16 : Cond.fieldLink RX10 16 (zTb 10 11).1 (zTb 10 11).2.1 (zTb 10 11).2.2.1 ∈ zT := zT_5 (List.mem_of_getElem? (i := 200) rfl) rfl
theorem wFX10_20 : Cond.fieldLink RX10 20 (zTb 10 12).1 (zTb 10 12).2.1 (zTb 10 12).2.2.1 ∈ zT := zT_5 (List.mem_of_getElem? (i := 201) rfl) rfl
theorem wFX10_23 : Cond.fieldLink RX10 23 (zTb 10 13).1 (zTb 10 13).2.1 (zTb 10 13).2.2.1 ∈ zT := zT_5 (List.mem_of_getElem? (i := 202) rfl) rfl
theorem wFX10_26 : Cond.fieldLink RX10 26 (zTb 10 14).1 (zTb 10 14).2.1 (zTb 10 14).2.2.1 ∈ zT := zT_5 (List.mem_of_getElem? (i := 203) rfl) rfl
theorem wFX10_29 : Cond.fieldLink RX10 29 (zTb 10 15).1 (zTb 10 15).2.1 (zTb 10 15).2.2.1 ∈ zT := zT_5 (List.mem_of_getElem? (i := 204) rfl) rfl
theorem wFX10_32 : Cond.fieldLink RX10 32 (zTb 10 16).1 (zTb 10 16).2.1 (zTb 10 16).2.2.1 ∈ zT := zT_5 (List.mem_of_getElem? (i := 205) rfl) rfl
theorem wFX10_35 : Cond.fieldLink RX10 35 (zTb 10 17).1 (zTb 10 17).2.1 (zTb 10 17).2.2.1 ∈ zT := zT_5 (List.mem_of_getElem? (i := 206) rfl) rfl
theorem wFX10_38 : Cond.fieldLink RX10 38 (zTb 10 18).1 (zTb 10 18).2.1 (zTb 10 18).2.2.1 ∈ zT := zT_5 (List.mem_of_getElem? (i := 207) rfl) rfl
theorem wFX10_41 : Cond.fieldLink RX10 41 (zTb 10 19).1 (zTb 10 19).2.1 (zTb 10 19).2.2.1 ∈ zT := zT_5 (List.mem_of_getElem? (i := 208) rfl) rfl
theorem wFX10_44 : Cond.fieldLink RX10 44 (zTb 10 20).1 (zTb 10 20).2.1 (zTb 10 20).2.2.1 ∈ zT := zT_5 (List.mem_of_getElem? (i := 209) rfl) rfl
theorem wFX10_47 : Cond.fieldLink RX10 47 (zTb 10 21).1 (zTb 10 21).2.1 (zTb 10 21).2.2.1 ∈ zT := zT_5 (List.mem_of_getElem? (i := 210) rfl) rfl
theorem wFX10_50 : Cond.fieldLink RX10 50 (zTb 10 22).1 (zTb 10 22).2.1 (zTb 10 22).2.2.1 ∈ zT := zT_5 (List.mem_of_getElem? (i := 211) rfl) rfl
theorem wFX10_53 : Cond.fieldLink RX10 53 (zTb 10 23).1 (zTb 10 23).2.1 (zTb 10 23).2.2.1 ∈ zT := zT_5 (List.mem_of_getElem? (i := 212) rfl) rfl
theorem wFX10_56 : Cond.fieldLink RX10 56 (zTb 10 24).1 (zTb 10 24).2.1 (zTb 10 24).2.2.1 ∈ zT := zT_5 (List.mem_of_getElem? (i := 213) rfl) rfl
theorem wFX10_59 : Cond.fieldLink RX10 59 (zTb 10 25).1 (zTb 10 25).2.1 (zTb 10 25).2.2.1 ∈ zT := zT_5 (List.mem_of_getElem? (i := 214) rfl) rfl
theorem wFX10_62 : Cond.fieldLink RX10 62 (zTb 10 26).1 (zTb 10 26).2.1 (zTb 10 26).2.2.1 ∈ zT := zT_5 (List.mem_of_getElem? (i := 215) rfl) rfl
theorem wFX10_65 : Cond.fieldLink RX10 65 (zTb 10 28).1 (zTb 10 28).2.1 (zTb 10 28).2.2.1 ∈ zT := zT_5 (List.mem_of_getElem? (i := 217) rfl) rfl
theorem wFX10_68 : Cond.fieldLink RX10 68 (zTb 10 29).1 (zTb 10 29).2.1 (zTb 10 29).2.2.1 ∈ zT := zT_5 (List.mem_of_getElem? (i := 218) rfl) rfl
theorem wFX10_72 : Cond.fieldLink RX10 72 (zTb 10 30).1 (zTb 10 30).2.1 (zTb 10 30).2.2.1 ∈ zT := zT_5 (List.mem_of_getElem? (i := 219) rfl) rfl
theorem wFX10_75 : Cond.fieldLink RX10 75 (zTb 10 31).1 (zTb 10 31).2.1 (zTb 10 31).2.2.1 ∈ zT := zT_5 (List.mem_of_getElem? (i := 220) rfl) rfl
theorem wFX10_78 : Cond.fieldLink RX10 78 (zTb 10 32).1 (zTb 10 32).2.1 (zTb 10 32).2.2.1 ∈ zT := zT_5 (List.mem_of_getElem? (i := 221) rfl) rfl
theorem wFX10_81 : Cond.fieldLink RX10 81 (zTb 10 33).1 (zTb 10 33).2.1 (zTb 10 33).2.2.1 ∈ zT := zT_5 (List.mem_of_getElem? (i := 222) rfl) rfl
theorem wFX10_84 : Cond.fieldLink RX10 84 (zTb 10 34).1 (zTb 10 34).2.1 (zTb 10 34).2.2.1 ∈ zT := zT_5 (List.mem_of_getElem? (i := 223) rfl) rfl
theorem wFX10_87 : Cond.fieldLink RX10 87 (zTb 10 35).1 (zTb 10 35).2.1 (zTb 10 35).2.2.1 ∈ zT := zT_5 (List.mem_of_getElem? (i := 224) rfl) rfl
theorem wFX10_90 : Cond.fieldLink RX10 90 (zTb 10 36).1 (zTb 10 36).2.1 (zTb 10 36).2.2.1 ∈ zT := zT_5 (List.mem_of_getElem? (i := 225) rfl) rfl
theorem wFX10_93 : Cond.fieldLink RX10 93 (zTb 10 37).1 (zTb 10 37).2.1 (zTb 10 37).2.2.1 ∈ zT := zT_5 (List.mem_of_getElem? (i := 226) rfl) rfl
theorem wFX10_96 : Cond.fieldLink RX10 96 (zTb 10 38).1 (zTb 10 38).2.1 (zTb 10 38).2.2.1 ∈ zT := zT_5 (List.mem_of_getElem? (i := 227) rfl) rfl
theorem wFX10_99 : Cond.fieldLink RX10 99 (zTb 10 39).1 (zTb 10 39).2.1 (zTb 10 39).2.2.1 ∈ zT := zT_5 (List.mem_of_getElem? (i := 228) rfl) rfl
theorem wFX10_102 : Cond.fieldLink RX10 102 (zTb 10 42).1 (zTb 10 42).2.1 (zTb 10 42).2.2.1 ∈ zT := zT_5 (List.mem_of_getElem? (i := 231) rfl) rfl
theorem wFX10_105 : Cond.fieldLink RX10 105 (zTb 10 43).1 (zTb 10 43).2.1 (zTb 10 43).2.2.1 ∈ zT := zT_5 (List.mem_of_getElem? (i := 232) rfl) rfl
theorem wFX10_108 : Cond.fieldLink RX10 108 (zTb 10 44).1 (zTb 10 44).2.1 (zTb 10 44).2.2.1 ∈ zT := zT_5 (List.mem_of_getElem? (i := 233) rfl) rfl
theorem wFX10_111 : Cond.fieldLink RX10 111 (zTb 10 45).1 (zTb 10 45).2.1 (zTb 10 45).2.2.1 ∈ zT := zT_5 (List.mem_of_getElem? (i := 234) rfl) rfl
theorem wFX10_114 : Cond.fieldLink RX10 114 (zTb 10 46).1 (zTb 10 46).2.1 (zTb 10 46).2.2.1 ∈ zT := zT_5 (List.mem_of_getElem? (i := 235) rfl) rfl
theorem wFX10_117 : Cond.fieldLink RX10 117 (zTb 10 47).1 (zTb 10 47).2.1 (zTb 10 47).2.2.1 ∈ zT := zT_5 (List.mem_of_getElem? (i := 236) rfl) rfl
theorem wFX10_120 : Cond.fieldLink RX10 120 (zTb 10 48).1 (zTb 10 48).2.1 (zTb 10 48).2.2.1 ∈ zT := zT_5 (List.mem_of_getElem? (i := 237) rfl) rfl
theorem wFX10_123 : Cond.fieldLink RX10 123 (zTb 10 49).1 (zTb 10 49).2.1 (zTb 10 49).2.2.1 ∈ zT := zT_5 (List.mem_of_getElem? (i := 238) rfl) rfl
theorem wFX10_126 : Cond.fieldLink RX10 126 (zTb 10 50).1 (zTb 10 50).2.1 (zTb 10 50).2.2.1 ∈ zT := zT_5 (List.mem_of_getElem? (i := 239) rfl) rfl
theorem wFX10_129 : Cond.fieldLink RX10 129 (zTb 10 51).1 (zTb 10 51).2.1 (zTb 10 51).2.2.1 ∈ zT := zT_6 (List.mem_of_getElem? (i := 0) rfl) rfl
theorem wFX10_132 : Cond.fieldLink RX10 132 (zTb 10 52).1 (zTb 10 52).2.1 (zTb 10 52).2.2.1 ∈ zT := zT_6 (List.mem_of_getElem? (i := 1) rfl) rfl
theorem wFX10_135 : Cond.fieldLink RX10 135 (zTb 10 53).1 (zTb 10 53).2.1 (zTb 10 53).2.2.1 ∈ zT := zT_6 (List.mem_of_getElem? (i := 2) rfl) rfl
theorem wFX10_138 : Cond.fieldLink RX10 138 (zTb 10 54).1 (zTb 10 54).2.1 (zTb 10 54).2.2.1 ∈ zT := zT_6 (List.mem_of_getElem? (i := 3) rfl) rfl
theorem wFX10_141 : Cond.fieldLink RX10 141 (zTb 10 55).1 (zTb 10 55).2.1 (zTb 10 55).2.2.1 ∈ zT := zT_6 (List.mem_of_getElem? (i := 4) rfl) rfl
theorem wFX10_144 : Cond.fieldLink RX10 144 (zTb 10 57).1 (zTb 10 57).2.1 (zTb 10 57).2.2.1 ∈ zT := zT_6 (List.mem_of_getElem? (i := 6) rfl) rfl
theorem wFX10_147 : Cond.fieldLink RX10 147 (zTb 10 60).1 (zTb 10 60).2.1 (zTb 10 60).2.2.1 ∈ zT := zT_6 (List.mem_of_getElem? (i := 9) rfl) rfl
theorem wFX10_150 : Cond.fieldLink RX10 150 (zTb 10 61).1 (zTb 10 61).2.1 (zTb 10 61).2.2.1 ∈ zT := zT_6 (List.mem_of_getElem? (i := 10) rfl) rfl
theorem wFX10_153 : Cond.fieldLink RX10 153 (zTb 10 62).1 (zTb 10 62).2.1 (zTb 10 62).2.2.1 ∈ zT := zT_6 (List.mem_of_getElem? (i := 11) rfl) rfl
theorem wFX10_156 : Cond.fieldLink RX10 156 (zTb 10 65).1 (zTb 10 65).2.1 (zTb 10 65).2.2.1 ∈ zT := zT_6 (List.mem_of_getElem? (i := 14) rfl) rfl
theorem wFX10_162 : Cond.fieldLink RX10 162 (zTb 10 0).1 (zTb 10 0).2.1 (zTb 10 0).2.2.1 ∈ zT := zT_5 (List.mem_of_getElem? (i := 189) rfl) rfl
theorem wFX10_168 : Cond.fieldLink RX10 168 (zTb 10 1).1 (zTb 10 1).2.1 (zTb 10 1).2.2.1 ∈ zT := zT_5 (List.mem_of_getElem? (i := 190) rfl) rfl
theorem wFX10_171 : Cond.fieldLink RX10 171 (zTb 10 3).1 (zTb 10 3).2.1 (zTb 10 3).2.2.1 ∈ zT := zT_5 (List.mem_of_getElem? (i := 192) rfl) rfl
theorem wFX10_174 : Cond.fieldLink RX10 174 (zTb 10 4).1 (zTb 10 4).2.1 (zTb 10 4).2.2.1 ∈ zT := zT_5 (List.mem_of_getElem? (i := 193) rfl) rfl
theorem wFX10_177 : Cond.fieldLink RX10 177 (zTb 10 5).1 (zTb 10 5).2.1 (zTb 10 5).2.2.1 ∈ zT := zT_5 (List.mem_of_getElem? (i := 194) rfl) rfl
theorem wFX10_180 : Cond.fieldLink RX10 180 (zTb 10 7).1 (zTb 10 7).2.1 (zTb 10 7).2.2.1 ∈ zT := zT_5 (List.mem_of_getElem? (i := 196) rfl) rfl
theorem wFX10_184 : Cond.fieldLink RX10 184 (zTb 10 8).1 (zTb 10 8).2.1 (zTb 10 8).2.2.1 ∈ zT := zT_5 (List.mem_of_getElem? (i := 197) rfl) rfl
theorem wFX10_187 : Cond.fieldLink RX10 187 (zTb 10 6).1 (zTb 10 6).2.1 (zTb 10 6).2.2.1 ∈ zT := zT_5 (List.mem_of_getElem? (i := 195) rfl) rfl
theorem wFX10_198 : Cond.fieldLink RX10 198 (zTb 10 9).1 (zTb 10 9).2.1 (zTb 10 9).2.2.1 ∈ zT := zT_5 (List.mem_of_getElem? (i := 198) rfl) rfl
theorem wFX10_201 : Cond.fieldLink RX10 201 (zTb 10 27).1 (zTb 10 27).2.1 (zTb 10 27).2.2.1 ∈ zT := zT_5 (List.mem_of_getElem? (i := 216) rfl) rfl
theorem wFX10_297 : Cond.fieldLink RX10 297 (zTb 10 40).1 (zTb 10 40).2.1 (zTb 10 40).2.2.1 ∈ zT := zT_5 (List.mem_of_getElem? (i := 229) rfl) rfl
theorem wFX10_323 : Cond.fieldLink RX10 323 (zTb 10 41).1 (zTb 10 41).2.1 (zTb 10 41).2.2.1 ∈ zT := zT_5 (List.mem_of_getElem? (i := 230) rfl) rfl
theorem wFX10_383 : Cond.fieldLink RX10 383 (zTb 10 56).1 (zTb 10 56).2.1 (zTb 10 56).2.2.1 ∈ zT := zT_6 (List.mem_of_getElem? (i := 5) rfl) rfl
theorem wFX10_466 : Cond.fieldLink RX10 466 (zTb 10 58).1 (zTb 10 58).2.1 (zTb 10 58).2.2.1 ∈ zT := zT_6 (List.mem_of_getElem? (i := 7) rfl) rfl
theorem wFX10_469 : Cond.fieldLink RX10 469 (zTb 10 59).1 (zTb 10 59).2.1 (zTb 10 59).2.2.1 ∈ zT := zT_6 (List.mem_of_getElem? (i := 8) rfl) rfl
theorem wFX10_487 : Cond.fieldLink RX10 487 (zTb 10 63).1 (zTb 10 63).2.1 (zTb 10 63).2.2.1 ∈ zT := zT_6 (List.mem_of_getElem? (i := 12) rfl) rfl
theorem wFX10_490 : Cond.fieldLink RX10 490 (zTb 10 64).1 (zTb 10 64).2.1 (zTb 10 64).2.2.1 ∈ zT := zT_6 (List.mem_of_getElem? (i := 13) rfl) rfl
theorem wFX10_523 : Cond.fieldLink RX10 523 (zTb 10 66).1 (zTb 10 66).2.1 (zTb 10 66).2.2.1 ∈ zT := zT_6 (List.mem_of_getElem? (i := 15) rfl) rfl
theorem wKX9_400 : Cond.constantLong RX9 400 1103515245 ∈ zT := zT_5 (List.mem_of_getElem? (i := 91) rfl) rfl
theorem wKX9_402 : Cond.constantLong RX9 402 12345 ∈ zT := zT_5 (List.mem_of_getElem? (i := 92) rfl) rfl
theorem wKX9_404 : Cond.constantLong RX9 404 2147483648 ∈ zT := zT_5 (List.mem_of_getElem? (i := 93) rfl) rfl
theorem wKX9_406 : Cond.constantLong RX9 406 65536 ∈ zT := zT_5 (List.mem_of_getElem? (i := 94) rfl) rfl
theorem wKX0_94 : Cond.constantLong RX0 94 482854658917 ∈ zT := zT_2 (List.mem_of_getElem? (i := 203) rfl) rfl
theorem wKX0_103 : Cond.constantLong RX0 103 126943972647277 ∈ zT := zT_3 (List.mem_of_getElem? (i := 36) rfl) rfl
theorem wKX0_108 : Cond.constantLong RX0 108 123581014175598 ∈ zT := zT_3 (List.mem_of_getElem? (i := 56) rfl) rfl
theorem wKX0_113 : Cond.constantLong RX0 113 478695155058 ∈ zT := zT_3 (List.mem_of_getElem? (i := 69) rfl) rfl
theorem wKX0_118 : Cond.constantLong RX0 118 2003986804 ∈ zT := zT_3 (List.mem_of_getElem? (i := 75) rfl) rfl
theorem wKX0_123 : Cond.constantLong RX0 123 1918986606 ∈ zT := zT_3 (List.mem_of_getElem? (i := 82) rfl) rfl
theorem wKX0_128 : Cond.constantLong RX0 128 2003137651 ∈ zT := zT_3 (List.mem_of_getElem? (i := 92) rfl) rfl
theorem wKX0_164 : Cond.constantLong RX0 164 512736126322 ∈ zT := zT_3 (List.mem_of_getElem? (i := 10) rfl) rfl
theorem wKX0_203 : Cond.constantLong RX0 203 26990 ∈ zT := zT_3 (List.mem_of_getElem? (i := 68) rfl) rfl
theorem wKX0_205 : Cond.constantLong RX0 205 482854660462 ∈ zT := zT_3 (List.mem_of_getElem? (i := 64) rfl) rfl
theorem wKX0_207 : Cond.constantLong RX0 207 2002875001 ∈ zT := zT_3 (List.mem_of_getElem? (i := 65) rfl) rfl
theorem wKX0_209 : Cond.constantLong RX0 209 108170704348530 ∈ zT := zT_3 (List.mem_of_getElem? (i := 66) rfl) rfl
theorem wKX0_211 : Cond.constantLong RX0 211 1684371321 ∈ zT := zT_3 (List.mem_of_getElem? (i := 67) rfl) rfl
theorem wKX0_213 : Cond.constantLong RX0 213 1885430629 ∈ zT := zT_3 (List.mem_of_getElem? (i := 74) rfl) rfl
theorem wKX0_215 : Cond.constantLong RX0 215 6713202 ∈ zT := zT_3 (List.mem_of_getElem? (i := 80) rfl) rfl
theorem wKX0_217 : Cond.constantLong RX0 217 25209 ∈ zT := zT_3 (List.mem_of_getElem? (i := 81) rfl) rfl
theorem wKX1_26 : Cond.constantLong RX1 26 6385252 ∈ zT := zT_3 (List.mem_of_getElem? (i := 136) rfl) rfl
theorem wKX1_34 : Cond.constantLong RX1 34 28530 ∈ zT := zT_3 (List.mem_of_getElem? (i := 137) rfl) rfl
theorem wKX1_56 : Cond.constantLong RX1 56 7237492 ∈ zT := zT_3 (List.mem_of_getElem? (i := 117) rfl) rfl
theorem wKX1_80 : Cond.constantLong RX1 80 465558725996 ∈ zT := zT_3 (List.mem_of_getElem? (i := 124) rfl) rfl
theorem wKX1_82 : Cond.constantLong RX1 82 439721159795 ∈ zT := zT_3 (List.mem_of_getElem? (i := 125) rfl) rfl
theorem wKX1_84 : Cond.constantLong RX1 84 2002876787 ∈ zT := zT_3 (List.mem_of_getElem? (i := 126) rfl) rfl
theorem wKX1_86 : Cond.constantLong RX1 86 1684108389 ∈ zT := zT_3 (List.mem_of_getElem? (i := 127) rfl) rfl
theorem wKX6_78 : Cond.constantLong RX6 78 6578553 ∈ zT := zT_3 (List.mem_of_getElem? (i := 171) rfl) rfl
theorem wKX6_84 : Cond.constantLong RX6 84 1952541541 ∈ zT := zT_3 (List.mem_of_getElem? (i := 173) rfl) rfl
theorem wKX6_86 : Cond.constantLong RX6 86 1937205613 ∈ zT := zT_3 (List.mem_of_getElem? (i := 174) rfl) rfl
theorem wKX6_88 : Cond.constantLong RX6 88 495623239269 ∈ zT := zT_3 (List.mem_of_getElem? (i := 175) rfl) rfl
theorem wKX8_15 : Cond.constantLong RX8 15 255 ∈ zT := zT_2 (List.mem_of_getElem? (i := 159) rfl) rfl
theorem wKX8_58 : Cond.constantLong RX8 58 10 ∈ zT := zT_2 (List.mem_of_getElem? (i := 191) rfl) rfl
theorem wKX10_166 : Cond.constantLong RX10 166 255 ∈ zT := zT_6 (List.mem_of_getElem? (i := 159) rfl) rfl
theorem wKX10_194 : Cond.constantLong RX10 194 27 ∈ zT := zT_6 (List.mem_of_getElem? (i := 180) rfl) rfl
theorem wKX10_196 : Cond.constantLong RX10 196 96 ∈ zT := zT_6 (List.mem_of_getElem? (i := 181) rfl) rfl
theorem wKX10_204 : Cond.constantLong RX10 204 6491892 ∈ zT := zT_7 (List.mem_of_getElem? (i := 68) rfl) rfl
theorem wKX10_206 : Cond.constantLong RX10 206 3217420 ∈ zT := zT_7 (List.mem_of_getElem? (i := 69) rfl) rfl
theorem wKX10_208 : Cond.constantLong RX10 208 454132 ∈ zT := zT_7 (List.mem_of_getElem? (i := 70) rfl) rfl
theorem wKX10_210 : Cond.constantLong RX10 210 80006 ∈ zT := zT_7 (List.mem_of_getElem? (i := 71) rfl) rfl
theorem wKX10_216 : Cond.constantLong RX10 216 10631 ∈ zT := zT_6 (List.mem_of_getElem? (i := 222) rfl) rfl
theorem wKX10_236 : Cond.constantLong RX10 236 1111 ∈ zT := zT_6 (List.mem_of_getElem? (i := 223) rfl) rfl
theorem wKX10_238 : Cond.constantLong RX10 238 423 ∈ zT := zT_6 (List.mem_of_getElem? (i := 224) rfl) rfl
theorem wKX10_249 : Cond.constantLong RX10 249 8740067 ∈ zT := zT_6 (List.mem_of_getElem? (i := 182) rfl) rfl
theorem wKX10_251 : Cond.constantLong RX10 251 12257559 ∈ zT := zT_6 (List.mem_of_getElem? (i := 203) rfl) rfl
theorem wKX10_253 : Cond.constantLong RX10 253 283616032 ∈ zT := zT_6 (List.mem_of_getElem? (i := 204) rfl) rfl
theorem wKX10_255 : Cond.constantLong RX10 255 232608281 ∈ zT := zT_6 (List.mem_of_getElem? (i := 205) rfl) rfl
theorem wKX10_257 : Cond.constantLong RX10 257 257 ∈ zT := zT_6 (List.mem_of_getElem? (i := 206) rfl) rfl
theorem wKX10_259 : Cond.constantLong RX10 259 8380008 ∈ zT := zT_6 (List.mem_of_getElem? (i := 207) rfl) rfl
theorem wKX10_261 : Cond.constantLong RX10 261 315743 ∈ zT := zT_6 (List.mem_of_getElem? (i := 208) rfl) rfl
theorem wKX10_263 : Cond.constantLong RX10 263 466094 ∈ zT := zT_6 (List.mem_of_getElem? (i := 209) rfl) rfl
theorem wKX10_265 : Cond.constantLong RX10 265 4797 ∈ zT := zT_6 (List.mem_of_getElem? (i := 210) rfl) rfl
theorem wKX10_267 : Cond.constantLong RX10 267 79 ∈ zT := zT_6 (List.mem_of_getElem? (i := 211) rfl) rfl
theorem wKX10_269 : Cond.constantLong RX10 269 355280 ∈ zT := zT_6 (List.mem_of_getElem? (i := 212) rfl) rfl
theorem wKX10_271 : Cond.constantLong RX10 271 456913 ∈ zT := zT_6 (List.mem_of_getElem? (i := 213) rfl) rfl
theorem wKX10_273 : Cond.constantLong RX10 273 2968 ∈ zT := zT_6 (List.mem_of_getElem? (i := 214) rfl) rfl
theorem wKX10_275 : Cond.constantLong RX10 275 394691 ∈ zT := zT_6 (List.mem_of_getElem? (i := 215) rfl) rfl
theorem wKX10_277 : Cond.constantLong RX10 277 391000 ∈ zT := zT_6 (List.mem_of_getElem? (i := 216) rfl) rfl
theorem wKX10_279 : Cond.constantLong RX10 279 10209515 ∈ zT := zT_6 (List.mem_of_getElem? (i := 217) rfl) rfl
theorem wKX10_281 : Cond.constantLong RX10 281 8740238 ∈ zT := zT_6 (List.mem_of_getElem? (i := 218) rfl) rfl
theorem wKX10_283 : Cond.constantLong RX10 283 453949 ∈ zT := zT_6 (List.mem_of_getElem? (i := 219) rfl) rfl
theorem wKX10_285 : Cond.constantLong RX10 285 29628900 ∈ zT := zT_6 (List.mem_of_getElem? (i := 220) rfl) rfl
theorem wKX10_287 : Cond.constantLong RX10 287 83023 ∈ zT := zT_6 (List.mem_of_getElem? (i := 221) rfl) rfl
theorem wKX10_515 : Cond.constantLong RX10 515 10 ∈ zT := zT_8 (List.mem_of_getElem? (i := 136) rfl) rfl
theorem wKX10_517 : Cond.constantLong RX10 517 1000000 ∈ zT := zT_8 (List.mem_of_getElem? (i := 137) rfl) rfl
theorem wKX10_526 : Cond.constantLong RX10 526 1103515245 ∈ zT := zT_8 (List.mem_of_getElem? (i := 157) rfl) rfl
theorem wKX10_528 : Cond.constantLong RX10 528 12345 ∈ zT := zT_8 (List.mem_of_getElem? (i := 158) rfl) rfl
theorem wKX10_530 : Cond.constantLong RX10 530 2147483648 ∈ zT := zT_8 (List.mem_of_getElem? (i := 159) rfl) rfl
theorem wKX10_532 : Cond.constantLong RX10 532 65536 ∈ zT := zT_8 (List.mem_of_getElem? (i := 160) rfl) rfl
theorem wIJ6_265 : Cond.constant RJ6 265 1431655765 ∈ zT := zT_4 (List.mem_of_getElem? (i := 3) rfl) rfl
theorem wIJ6_266 : Cond.constant RJ6 266 858993459 ∈ zT := zT_4 (List.mem_of_getElem? (i := 4) rfl) rfl
theorem wIJ6_267 : Cond.constant RJ6 267 252645135 ∈ zT := zT_4 (List.mem_of_getElem? (i := 5) rfl) rfl
theorem wAnat : Cond.native arraycopyName ∈ zT := zT_2 (List.mem_of_getElem? (i := 100) rfl) rfl
theorem wAst : Cond.static arraycopyName ∈ zT := zT_2 (List.mem_of_getElem? (i := 99) rfl) rfl
theorem wAin : Cond.initialized "java/lang/System" ∈ zT := zT_1 (List.mem_of_getElem? (i := 11) rfl) rfl
theorem hpyX9_bitsOf : (parseMethodDescriptor yX9_bitsOf.desc).map (fun d => d.parameters.length) = some 3 := by decide +kernel
theorem hmyX9_bitsOf : yX9_bitsOf.cls ≠ "java/lang/invoke/MethodHandle" ∧ yX9_bitsOf.cls ≠ "java/lang/invoke/VarHandle" := by decide +kernel
theorem wcyX9_bitsOf : Cond.code yX9_bitsOf cX9_bitsOf 5 (some .int) ∈ zT := zT_3 (List.mem_of_getElem? (i := 190) rfl) rfl
theorem hpyX9_doDrawn : (parseMethodDescriptor yX9_doDrawn.desc).map (fun d => d.parameters.length) = some 0 := by decide +kernel
theorem hmyX9_doDrawn : yX9_doDrawn.cls ≠ "java/lang/invoke/MethodHandle" ∧ yX9_doDrawn.cls ≠ "java/lang/invoke/VarHandle" := by decide +kernel
theorem wcyX9_doDrawn : Cond.code yX9_doDrawn cX9_doDrawn 5 (some .boolean) ∈ zT := zT_5 (List.mem_of_getElem? (i := 86) rfl) rfl
theorem hpyX9_draw : (parseMethodDescriptor yX9_draw.desc).map (fun d => d.parameters.length) = some 1 := by decide +kernel
theorem hmyX9_draw : yX9_draw.cls ≠ "java/lang/invoke/MethodHandle" ∧ yX9_draw.cls ≠ "java/lang/invoke/VarHandle" := by decide +kernel
theorem wcyX9_draw : Cond.code yX9_draw cX9_draw 2 (some .int) ∈ zT := zT_5 (List.mem_of_getElem? (i := 90) rfl) rfl
theorem hpyX9_fillTomorrow : (parseMethodDescriptor yX9_fillTomorrow.desc).map (fun d => d.parameters.length) = some 1 := by decide +kernel
theorem hmyX9_fillTomorrow : yX9_fillTomorrow.cls ≠ "java/lang/invoke/MethodHandle" ∧ yX9_fillTomorrow.cls ≠ "java/lang/invoke/VarHandle" := by decide +kernel
theorem wcyX9_fillTomorrow : Cond.code yX9_fillTomorrow cX9_fillTomorrow 3 none ∈ zT := zT_5 (List.mem_of_getElem? (i := 66) rfl) rfl
theorem hpyX9_firstDay : (parseMethodDescriptor yX9_firstDay.desc).map (fun d => d.parameters.length) = some 2 := by decide +kernel
theorem hmyX9_firstDay : yX9_firstDay.cls ≠ "java/lang/invoke/MethodHandle" ∧ yX9_firstDay.cls ≠ "java/lang/invoke/VarHandle" := by decide +kernel
theorem wcyX9_firstDay : Cond.code yX9_firstDay cX9_firstDay 4 (some .int) ∈ zT := zT_4 (List.mem_of_getElem? (i := 142) rfl) rfl
theorem hpyX9_forgetPast : (parseMethodDescriptor yX9_forgetPast.desc).map (fun d => d.parameters.length) = some 0 := by decide +kernel
theorem hmyX9_forgetPast : yX9_forgetPast.cls ≠ "java/lang/invoke/MethodHandle" ∧ yX9_forgetPast.cls ≠ "java/lang/invoke/VarHandle" := by decide +kernel
theorem wcyX9_forgetPast : Cond.code yX9_forgetPast cX9_forgetPast 1 none ∈ zT := zT_3 (List.mem_of_getElem? (i := 149) rfl) rfl
theorem hpyX9_isAsSeen : (parseMethodDescriptor yX9_isAsSeen.desc).map (fun d => d.parameters.length) = some 1 := by decide +kernel
theorem hmyX9_isAsSeen : yX9_isAsSeen.cls ≠ "java/lang/invoke/MethodHandle" ∧ yX9_isAsSeen.cls ≠ "java/lang/invoke/VarHandle" := by decide +kernel
theorem wcyX9_isAsSeen : Cond.code yX9_isAsSeen cX9_isAsSeen 5 (some .boolean) ∈ zT := zT_5 (List.mem_of_getElem? (i := 56) rfl) rfl
theorem hpyX9_isBridge : (parseMethodDescriptor yX9_isBridge.desc).map (fun d => d.parameters.length) = some 2 := by decide +kernel
theorem hmyX9_isBridge : yX9_isBridge.cls ≠ "java/lang/invoke/MethodHandle" ∧ yX9_isBridge.cls ≠ "java/lang/invoke/VarHandle" := by decide +kernel
theorem wcyX9_isBridge : Cond.code yX9_isBridge cX9_isBridge 4 (some .boolean) ∈ zT := zT_5 (List.mem_of_getElem? (i := 39) rfl) rfl
theorem hpyX9_isOtter : (parseMethodDescriptor yX9_isOtter.desc).map (fun d => d.parameters.length) = some 1 := by decide +kernel
theorem hmyX9_isOtter : yX9_isOtter.cls ≠ "java/lang/invoke/MethodHandle" ∧ yX9_isOtter.cls ≠ "java/lang/invoke/VarHandle" := by decide +kernel
theorem wcyX9_isOtter : Cond.code yX9_isOtter cX9_isOtter 2 (some .boolean) ∈ zT := zT_3 (List.mem_of_getElem? (i := 206) rfl) rfl
theorem hpyX9_isPerson : (parseMethodDescriptor yX9_isPerson.desc).map (fun d => d.parameters.length) = some 1 := by decide +kernel
theorem hmyX9_isPerson : yX9_isPerson.cls ≠ "java/lang/invoke/MethodHandle" ∧ yX9_isPerson.cls ≠ "java/lang/invoke/VarHandle" := by decide +kernel
theorem wcyX9_isPerson : Cond.code yX9_isPerson cX9_isPerson 2 (some .boolean) ∈ zT := zT_3 (List.mem_of_getElem? (i := 198) rfl) rfl
theorem hpyX9_isPlace : (parseMethodDescriptor yX9_isPlace.desc).map (fun d => d.parameters.length) = some 1 := by decide +kernel
theorem hmyX9_isPlace : yX9_isPlace.cls ≠ "java/lang/invoke/MethodHandle" ∧ yX9_isPlace.cls ≠ "java/lang/invoke/VarHandle" := by decide +kernel
theorem wcyX9_isPlace : Cond.code yX9_isPlace cX9_isPlace 2 (some .boolean) ∈ zT := zT_3 (List.mem_of_getElem? (i := 187) rfl) rfl
theorem hpyX9_isSafe : (parseMethodDescriptor yX9_isSafe.desc).map (fun d => d.parameters.length) = some 3 := by decide +kernel
theorem hmyX9_isSafe : yX9_isSafe.cls ≠ "java/lang/invoke/MethodHandle" ∧ yX9_isSafe.cls ≠ "java/lang/invoke/VarHandle" := by decide +kernel
theorem wcyX9_isSafe : Cond.code yX9_isSafe cX9_isSafe 5 (some .boolean) ∈ zT := zT_4 (List.mem_of_getElem? (i := 170) rfl) rfl
theorem hpyX9_isWrit : (parseMethodDescriptor yX9_isWrit.desc).map (fun d => d.parameters.length) = some 1 := by decide +kernel
theorem hmyX9_isWrit : yX9_isWrit.cls ≠ "java/lang/invoke/MethodHandle" ∧ yX9_isWrit.cls ≠ "java/lang/invoke/VarHandle" := by decide +kernel
theorem wcyX9_isWrit : Cond.code yX9_isWrit cX9_isWrit 2 (some .boolean) ∈ zT := zT_3 (List.mem_of_getElem? (i := 214) rfl) rfl
theorem hpyX9_keepPast : (parseMethodDescriptor yX9_keepPast.desc).map (fun d => d.parameters.length) = some 0 := by decide +kernel
theorem hmyX9_keepPast : yX9_keepPast.cls ≠ "java/lang/invoke/MethodHandle" ∧ yX9_keepPast.cls ≠ "java/lang/invoke/VarHandle" := by decide +kernel
theorem wcyX9_keepPast : Cond.code yX9_keepPast cX9_keepPast 1 none ∈ zT := zT_4 (List.mem_of_getElem? (i := 9) rfl) rfl
theorem hpyX9_pay : (parseMethodDescriptor yX9_pay.desc).map (fun d => d.parameters.length) = some 5 := by decide +kernel
theorem hmyX9_pay : yX9_pay.cls ≠ "java/lang/invoke/MethodHandle" ∧ yX9_pay.cls ≠ "java/lang/invoke/VarHandle" := by decide +kernel
theorem wcyX9_pay : Cond.code yX9_pay cX9_pay 5 (some .int) ∈ zT := zT_5 (List.mem_of_getElem? (i := 177) rfl) rfl
theorem hpyX9_poolOf : (parseMethodDescriptor yX9_poolOf.desc).map (fun d => d.parameters.length) = some 2 := by decide +kernel
theorem hmyX9_poolOf : yX9_poolOf.cls ≠ "java/lang/invoke/MethodHandle" ∧ yX9_poolOf.cls ≠ "java/lang/invoke/VarHandle" := by decide +kernel
theorem wcyX9_poolOf : Cond.code yX9_poolOf cX9_poolOf 4 (some .int) ∈ zT := zT_5 (List.mem_of_getElem? (i := 21) rfl) rfl
theorem hpyX9_rains : (parseMethodDescriptor yX9_rains.desc).map (fun d => d.parameters.length) = some 0 := by decide +kernel
theorem hmyX9_rains : yX9_rains.cls ≠ "java/lang/invoke/MethodHandle" ∧ yX9_rains.cls ≠ "java/lang/invoke/VarHandle" := by decide +kernel
theorem wcyX9_rains : Cond.code yX9_rains cX9_rains 3 (some .int) ∈ zT := zT_5 (List.mem_of_getElem? (i := 52) rfl) rfl
theorem hpyX9_rainsWithSoMuch : (parseMethodDescriptor yX9_rainsWithSoMuch.desc).map (fun d => d.parameters.length) = some 2 := by decide +kernel
theorem hmyX9_rainsWithSoMuch : yX9_rainsWithSoMuch.cls ≠ "java/lang/invoke/MethodHandle" ∧ yX9_rainsWithSoMuch.cls ≠ "java/lang/invoke/VarHandle" := by decide +kernel
theorem wcyX9_rainsWithSoMuch : Cond.code yX9_rainsWithSoMuch cX9_rainsWithSoMuch 5 (some .int) ∈ zT := zT_5 (List.mem_of_getElem? (i := 70) rfl) rfl
theorem hpyX9_startAnew : (parseMethodDescriptor yX9_startAnew.desc).map (fun d => d.parameters.length) = some 0 := by decide +kernel
theorem hmyX9_startAnew : yX9_startAnew.cls ≠ "java/lang/invoke/MethodHandle" ∧ yX9_startAnew.cls ≠ "java/lang/invoke/VarHandle" := by decide +kernel
theorem wcyX9_startAnew : Cond.code yX9_startAnew cX9_startAnew 2 none ∈ zT := zT_3 (List.mem_of_getElem? (i := 145) rfl) rfl
theorem hpyX9_weighWet : (parseMethodDescriptor yX9_weighWet.desc).map (fun d => d.parameters.length) = some 6 := by decide +kernel
theorem hmyX9_weighWet : yX9_weighWet.cls ≠ "java/lang/invoke/MethodHandle" ∧ yX9_weighWet.cls ≠ "java/lang/invoke/VarHandle" := by decide +kernel
theorem wcyX9_weighWet : Cond.code yX9_weighWet cX9_weighWet 8 (some .int) ∈ zT := zT_5 (List.mem_of_getElem? (i := 78) rfl) rfl
theorem hpyX9_within : (parseMethodDescriptor yX9_within.desc).map (fun d => d.parameters.length) = some 3 := by decide +kernel
theorem hmyX9_within : yX9_within.cls ≠ "java/lang/invoke/MethodHandle" ∧ yX9_within.cls ≠ "java/lang/invoke/VarHandle" := by decide +kernel
theorem wcyX9_within : Cond.code yX9_within cX9_within 3 (some .boolean) ∈ zT := zT_2 (List.mem_of_getElem? (i := 162) rfl) rfl
theorem hpyX0_allPlaces : (parseMethodDescriptor yX0_allPlaces.desc).map (fun d => d.parameters.length) = some 0 := by decide +kernel
theorem hmyX0_allPlaces : yX0_allPlaces.cls ≠ "java/lang/invoke/MethodHandle" ∧ yX0_allPlaces.cls ≠ "java/lang/invoke/VarHandle" := by decide +kernel
theorem wcyX0_allPlaces : Cond.code yX0_allPlaces cX0_allPlaces 1 (some .int) ∈ zT := zT_4 (List.mem_of_getElem? (i := 158) rfl) rfl
theorem hpyX0_allWrits : (parseMethodDescriptor yX0_allWrits.desc).map (fun d => d.parameters.length) = some 0 := by decide +kernel
theorem hmyX0_allWrits : yX0_allWrits.cls ≠ "java/lang/invoke/MethodHandle" ∧ yX0_allWrits.cls ≠ "java/lang/invoke/VarHandle" := by decide +kernel
theorem wcyX0_allWrits : Cond.code yX0_allWrits cX0_allWrits 1 (some .int) ∈ zT := zT_5 (List.mem_of_getElem? (i := 4) rfl) rfl
theorem hpyX0_clear : (parseMethodDescriptor yX0_clear.desc).map (fun d => d.parameters.length) = some 0 := by decide +kernel
theorem hmyX0_clear : yX0_clear.cls ≠ "java/lang/invoke/MethodHandle" ∧ yX0_clear.cls ≠ "java/lang/invoke/VarHandle" := by decide +kernel
theorem wcyX0_clear : Cond.code yX0_clear cX0_clear 1 none ∈ zT := zT_2 (List.mem_of_getElem? (i := 174) rfl) rfl
theorem hpyX0_flipLink : (parseMethodDescriptor yX0_flipLink.desc).map (fun d => d.parameters.length) = some 2 := by decide +kernel
theorem hmyX0_flipLink : yX0_flipLink.cls ≠ "java/lang/invoke/MethodHandle" ∧ yX0_flipLink.cls ≠ "java/lang/invoke/VarHandle" := by decide +kernel
theorem wcyX0_flipLink : Cond.code yX0_flipLink cX0_flipLink 3 none ∈ zT := zT_3 (List.mem_of_getElem? (i := 55) rfl) rfl
theorem hpyX0_isLinked : (parseMethodDescriptor yX0_isLinked.desc).map (fun d => d.parameters.length) = some 2 := by decide +kernel
theorem hmyX0_isLinked : yX0_isLinked.cls ≠ "java/lang/invoke/MethodHandle" ∧ yX0_isLinked.cls ≠ "java/lang/invoke/VarHandle" := by decide +kernel
theorem wcyX0_isLinked : Cond.code yX0_isLinked cX0_isLinked 3 (some .boolean) ∈ zT := zT_3 (List.mem_of_getElem? (i := 50) rfl) rfl
theorem hpyX0_isTold : (parseMethodDescriptor yX0_isTold.desc).map (fun d => d.parameters.length) = some 1 := by decide +kernel
theorem hmyX0_isTold : yX0_isTold.cls ≠ "java/lang/invoke/MethodHandle" ∧ yX0_isTold.cls ≠ "java/lang/invoke/VarHandle" := by decide +kernel
theorem wcyX0_isTold : Cond.code yX0_isTold cX0_isTold 3 (some .boolean) ∈ zT := zT_3 (List.mem_of_getElem? (i := 5) rfl) rfl
theorem hpyX0_passFirst : (parseMethodDescriptor yX0_passFirst.desc).map (fun d => d.parameters.length) = some 2 := by decide +kernel
theorem hmyX0_passFirst : yX0_passFirst.cls ≠ "java/lang/invoke/MethodHandle" ∧ yX0_passFirst.cls ≠ "java/lang/invoke/VarHandle" := by decide +kernel
theorem wcyX0_passFirst : Cond.code yX0_passFirst cX0_passFirst 2 none ∈ zT := zT_2 (List.mem_of_getElem? (i := 218) rfl) rfl
theorem hpyX0_passKind : (parseMethodDescriptor yX0_passKind.desc).map (fun d => d.parameters.length) = some 1 := by decide +kernel
theorem hmyX0_passKind : yX0_passKind.cls ≠ "java/lang/invoke/MethodHandle" ∧ yX0_passKind.cls ≠ "java/lang/invoke/VarHandle" := by decide +kernel
theorem wcyX0_passKind : Cond.code yX0_passKind cX0_passKind 2 (some .int) ∈ zT := zT_3 (List.mem_of_getElem? (i := 63) rfl) rfl
theorem hpyX0_passNewName : (parseMethodDescriptor yX0_passNewName.desc).map (fun d => d.parameters.length) = some 1 := by decide +kernel
theorem hmyX0_passNewName : yX0_passNewName.cls ≠ "java/lang/invoke/MethodHandle" ∧ yX0_passNewName.cls ≠ "java/lang/invoke/VarHandle" := by decide +kernel
theorem wcyX0_passNewName : Cond.code yX0_passNewName cX0_passNewName 4 (some .long) ∈ zT := zT_2 (List.mem_of_getElem? (i := 231) rfl) rfl
theorem hpyX0_rainOf : (parseMethodDescriptor yX0_rainOf.desc).map (fun d => d.parameters.length) = some 1 := by decide +kernel
theorem hmyX0_rainOf : yX0_rainOf.cls ≠ "java/lang/invoke/MethodHandle" ∧ yX0_rainOf.cls ≠ "java/lang/invoke/VarHandle" := by decide +kernel
theorem wcyX0_rainOf : Cond.code yX0_rainOf cX0_rainOf 2 (some .int) ∈ zT := zT_3 (List.mem_of_getElem? (i := 222) rfl) rfl
theorem hpyX0_read : (parseMethodDescriptor yX0_read.desc).map (fun d => d.parameters.length) = some 1 := by decide +kernel
theorem hmyX0_read : yX0_read.cls ≠ "java/lang/invoke/MethodHandle" ∧ yX0_read.cls ≠ "java/lang/invoke/VarHandle" := by decide +kernel
theorem wcyX0_read : Cond.code yX0_read cX0_read 3 none ∈ zT := zT_2 (List.mem_of_getElem? (i := 170) rfl) rfl
theorem hpyX0_readMoreRain : (parseMethodDescriptor yX0_readMoreRain.desc).map (fun d => d.parameters.length) = some 1 := by decide +kernel
theorem hmyX0_readMoreRain : yX0_readMoreRain.cls ≠ "java/lang/invoke/MethodHandle" ∧ yX0_readMoreRain.cls ≠ "java/lang/invoke/VarHandle" := by decide +kernel
theorem wcyX0_readMoreRain : Cond.code yX0_readMoreRain cX0_readMoreRain 4 none ∈ zT := zT_3 (List.mem_of_getElem? (i := 91) rfl) rfl
theorem hpyX0_readOtter : (parseMethodDescriptor yX0_readOtter.desc).map (fun d => d.parameters.length) = some 1 := by decide +kernel
theorem hmyX0_readOtter : yX0_readOtter.cls ≠ "java/lang/invoke/MethodHandle" ∧ yX0_readOtter.cls ≠ "java/lang/invoke/VarHandle" := by decide +kernel
theorem wcyX0_readOtter : Cond.code yX0_readOtter cX0_readOtter 7 none ∈ zT := zT_3 (List.mem_of_getElem? (i := 73) rfl) rfl
theorem hpyX0_readPerson : (parseMethodDescriptor yX0_readPerson.desc).map (fun d => d.parameters.length) = some 1 := by decide +kernel
theorem hmyX0_readPerson : yX0_readPerson.cls ≠ "java/lang/invoke/MethodHandle" ∧ yX0_readPerson.cls ≠ "java/lang/invoke/VarHandle" := by decide +kernel
theorem wcyX0_readPerson : Cond.code yX0_readPerson cX0_readPerson 7 none ∈ zT := zT_3 (List.mem_of_getElem? (i := 60) rfl) rfl
theorem hpyX0_readPlace : (parseMethodDescriptor yX0_readPlace.desc).map (fun d => d.parameters.length) = some 1 := by decide +kernel
theorem hmyX0_readPlace : yX0_readPlace.cls ≠ "java/lang/invoke/MethodHandle" ∧ yX0_readPlace.cls ≠ "java/lang/invoke/VarHandle" := by decide +kernel
theorem wcyX0_readPlace : Cond.code yX0_readPlace cX0_readPlace 6 none ∈ zT := zT_2 (List.mem_of_getElem? (i := 211) rfl) rfl
theorem hpyX0_readRain : (parseMethodDescriptor yX0_readRain.desc).map (fun d => d.parameters.length) = some 1 := by decide +kernel
theorem hmyX0_readRain : yX0_readRain.cls ≠ "java/lang/invoke/MethodHandle" ∧ yX0_readRain.cls ≠ "java/lang/invoke/VarHandle" := by decide +kernel
theorem wcyX0_readRain : Cond.code yX0_readRain cX0_readRain 3 none ∈ zT := zT_3 (List.mem_of_getElem? (i := 86) rfl) rfl
theorem hpyX0_readStatement : (parseMethodDescriptor yX0_readStatement.desc).map (fun d => d.parameters.length) = some 1 := by decide +kernel
theorem hmyX0_readStatement : yX0_readStatement.cls ≠ "java/lang/invoke/MethodHandle" ∧ yX0_readStatement.cls ≠ "java/lang/invoke/VarHandle" := by decide +kernel
theorem wcyX0_readStatement : Cond.code yX0_readStatement cX0_readStatement 2 none ∈ zT := zT_2 (List.mem_of_getElem? (i := 202) rfl) rfl
theorem hpyX0_readStream : (parseMethodDescriptor yX0_readStream.desc).map (fun d => d.parameters.length) = some 1 := by decide +kernel
theorem hmyX0_readStream : yX0_readStream.cls ≠ "java/lang/invoke/MethodHandle" ∧ yX0_readStream.cls ≠ "java/lang/invoke/VarHandle" := by decide +kernel
theorem wcyX0_readStream : Cond.code yX0_readStream cX0_readStream 5 none ∈ zT := zT_3 (List.mem_of_getElem? (i := 40) rfl) rfl
theorem hpyX0_readWets : (parseMethodDescriptor yX0_readWets.desc).map (fun d => d.parameters.length) = some 1 := by decide +kernel
theorem hmyX0_readWets : yX0_readWets.cls ≠ "java/lang/invoke/MethodHandle" ∧ yX0_readWets.cls ≠ "java/lang/invoke/VarHandle" := by decide +kernel
theorem wcyX0_readWets : Cond.code yX0_readWets cX0_readWets 2 none ∈ zT := zT_3 (List.mem_of_getElem? (i := 96) rfl) rfl
theorem hpyX0_readWrit : (parseMethodDescriptor yX0_readWrit.desc).map (fun d => d.parameters.length) = some 1 := by decide +kernel
theorem hmyX0_readWrit : yX0_readWrit.cls ≠ "java/lang/invoke/MethodHandle" ∧ yX0_readWrit.cls ≠ "java/lang/invoke/VarHandle" := by decide +kernel
theorem wcyX0_readWrit : Cond.code yX0_readWrit cX0_readWrit 7 none ∈ zT := zT_3 (List.mem_of_getElem? (i := 79) rfl) rfl
theorem hpyX0_spread : (parseMethodDescriptor yX0_spread.desc).map (fun d => d.parameters.length) = some 2 := by decide +kernel
theorem hmyX0_spread : yX0_spread.cls ≠ "java/lang/invoke/MethodHandle" ∧ yX0_spread.cls ≠ "java/lang/invoke/VarHandle" := by decide +kernel
theorem wcyX0_spread : Cond.code yX0_spread cX0_spread 5 (some .int) ∈ zT := zT_4 (List.mem_of_getElem? (i := 186) rfl) rfl
theorem hpyX0_spreadAll : (parseMethodDescriptor yX0_spreadAll.desc).map (fun d => d.parameters.length) = some 2 := by decide +kernel
theorem hmyX0_spreadAll : yX0_spreadAll.cls ≠ "java/lang/invoke/MethodHandle" ∧ yX0_spreadAll.cls ≠ "java/lang/invoke/VarHandle" := by decide +kernel
theorem wcyX0_spreadAll : Cond.code yX0_spreadAll cX0_spreadAll 5 (some .int) ∈ zT := zT_5 (List.mem_of_getElem? (i := 12) rfl) rfl
theorem hpyX0_waterBehind : (parseMethodDescriptor yX0_waterBehind.desc).map (fun d => d.parameters.length) = some 4 := by decide +kernel
theorem hmyX0_waterBehind : yX0_waterBehind.cls ≠ "java/lang/invoke/MethodHandle" ∧ yX0_waterBehind.cls ≠ "java/lang/invoke/VarHandle" := by decide +kernel
theorem wcyX0_waterBehind : Cond.code yX0_waterBehind cX0_waterBehind 6 (some .int) ∈ zT := zT_4 (List.mem_of_getElem? (i := 53) rfl) rfl
theorem hpyX1_join : (parseMethodDescriptor yX1_join.desc).map (fun d => d.parameters.length) = some 3 := by decide +kernel
theorem hmyX1_join : yX1_join.cls ≠ "java/lang/invoke/MethodHandle" ∧ yX1_join.cls ≠ "java/lang/invoke/VarHandle" := by decide +kernel
theorem wcyX1_join : Cond.code yX1_join cX1_join 3 (some .int) ∈ zT := zT_4 (List.mem_of_getElem? (i := 64) rfl) rfl
theorem hpyX1_put : (parseMethodDescriptor yX1_put.desc).map (fun d => d.parameters.length) = some 1 := by decide +kernel
theorem hmyX1_put : yX1_put.cls ≠ "java/lang/invoke/MethodHandle" ∧ yX1_put.cls ≠ "java/lang/invoke/VarHandle" := by decide +kernel
theorem wcyX1_put : Cond.code yX1_put cX1_put 2 none ∈ zT := zT_3 (List.mem_of_getElem? (i := 133) rfl) rfl
theorem hpyX1_readExpression : (parseMethodDescriptor yX1_readExpression.desc).map (fun d => d.parameters.length) = some 2 := by decide +kernel
theorem hmyX1_readExpression : yX1_readExpression.cls ≠ "java/lang/invoke/MethodHandle" ∧ yX1_readExpression.cls ≠ "java/lang/invoke/VarHandle" := by decide +kernel
theorem wcyX1_readExpression : Cond.code yX1_readExpression cX1_readExpression 5 none ∈ zT := zT_3 (List.mem_of_getElem? (i := 100) rfl) rfl
theorem hpyX1_readPart : (parseMethodDescriptor yX1_readPart.desc).map (fun d => d.parameters.length) = some 2 := by decide +kernel
theorem hmyX1_readPart : yX1_readPart.cls ≠ "java/lang/invoke/MethodHandle" ∧ yX1_readPart.cls ≠ "java/lang/invoke/VarHandle" := by decide +kernel
theorem wcyX1_readPart : Cond.code yX1_readPart cX1_readPart 6 none ∈ zT := zT_3 (List.mem_of_getElem? (i := 116) rfl) rfl
theorem hpyX1_readProduct : (parseMethodDescriptor yX1_readProduct.desc).map (fun d => d.parameters.length) = some 2 := by decide +kernel
theorem hmyX1_readProduct : yX1_readProduct.cls ≠ "java/lang/invoke/MethodHandle" ∧ yX1_readProduct.cls ≠ "java/lang/invoke/VarHandle" := by decide +kernel
theorem wcyX1_readProduct : Cond.code yX1_readProduct cX1_readProduct 4 none ∈ zT := zT_3 (List.mem_of_getElem? (i := 112) rfl) rfl
theorem hpyX1_readSum : (parseMethodDescriptor yX1_readSum.desc).map (fun d => d.parameters.length) = some 2 := by decide +kernel
theorem hmyX1_readSum : yX1_readSum.cls ≠ "java/lang/invoke/MethodHandle" ∧ yX1_readSum.cls ≠ "java/lang/invoke/VarHandle" := by decide +kernel
theorem wcyX1_readSum : Cond.code yX1_readSum cX1_readSum 5 none ∈ zT := zT_3 (List.mem_of_getElem? (i := 108) rfl) rfl
theorem hpyX1_readTest : (parseMethodDescriptor yX1_readTest.desc).map (fun d => d.parameters.length) = some 2 := by decide +kernel
theorem hmyX1_readTest : yX1_readTest.cls ≠ "java/lang/invoke/MethodHandle" ∧ yX1_readTest.cls ≠ "java/lang/invoke/VarHandle" := by decide +kernel
theorem wcyX1_readTest : Cond.code yX1_readTest cX1_readTest 4 none ∈ zT := zT_3 (List.mem_of_getElem? (i := 104) rfl) rfl
theorem hpyX1_simple : (parseMethodDescriptor yX1_simple.desc).map (fun d => d.parameters.length) = some 5 := by decide +kernel
theorem hmyX1_simple : yX1_simple.cls ≠ "java/lang/invoke/MethodHandle" ∧ yX1_simple.cls ≠ "java/lang/invoke/VarHandle" := by decide +kernel
theorem wcyX1_simple : Cond.code yX1_simple cX1_simple 5 (some .int) ∈ zT := zT_4 (List.mem_of_getElem? (i := 61) rfl) rfl
theorem hpyX1_simpleStep : (parseMethodDescriptor yX1_simpleStep.desc).map (fun d => d.parameters.length) = some 1 := by decide +kernel
theorem hmyX1_simpleStep : yX1_simpleStep.cls ≠ "java/lang/invoke/MethodHandle" ∧ yX1_simpleStep.cls ≠ "java/lang/invoke/VarHandle" := by decide +kernel
theorem wcyX1_simpleStep : Cond.code yX1_simpleStep cX1_simpleStep 1 (some .int) ∈ zT := zT_3 (List.mem_of_getElem? (i := 122) rfl) rfl
theorem hpyX1_tells : (parseMethodDescriptor yX1_tells.desc).map (fun d => d.parameters.length) = some 4 := by decide +kernel
theorem hmyX1_tells : yX1_tells.cls ≠ "java/lang/invoke/MethodHandle" ∧ yX1_tells.cls ≠ "java/lang/invoke/VarHandle" := by decide +kernel
theorem wcyX1_tells : Cond.code yX1_tells cX1_tells 8 (some .int) ∈ zT := zT_4 (List.mem_of_getElem? (i := 58) rfl) rfl
theorem hpyX2_lay : (parseMethodDescriptor yX2_lay.desc).map (fun d => d.parameters.length) = some 3 := by decide +kernel
theorem hmyX2_lay : yX2_lay.cls ≠ "java/lang/invoke/MethodHandle" ∧ yX2_lay.cls ≠ "java/lang/invoke/VarHandle" := by decide +kernel
theorem wcyX2_lay : Cond.code yX2_lay cX2_lay 4 none ∈ zT := zT_4 (List.mem_of_getElem? (i := 85) rfl) rfl
theorem hpyX3_find : (parseMethodDescriptor yX3_find.desc).map (fun d => d.parameters.length) = some 1 := by decide +kernel
theorem hmyX3_find : yX3_find.cls ≠ "java/lang/invoke/MethodHandle" ∧ yX3_find.cls ≠ "java/lang/invoke/VarHandle" := by decide +kernel
theorem wcyX3_find : Cond.code yX3_find cX3_find 4 (some .int) ∈ zT := zT_3 (List.mem_of_getElem? (i := 9) rfl) rfl
theorem hpyX3_isFull : (parseMethodDescriptor yX3_isFull.desc).map (fun d => d.parameters.length) = some 0 := by decide +kernel
theorem hmyX3_isFull : yX3_isFull.cls ≠ "java/lang/invoke/MethodHandle" ∧ yX3_isFull.cls ≠ "java/lang/invoke/VarHandle" := by decide +kernel
theorem wcyX3_isFull : Cond.code yX3_isFull cX3_isFull 1 (some .boolean) ∈ zT := zT_2 (List.mem_of_getElem? (i := 215) rfl) rfl
theorem hpyX3_put : (parseMethodDescriptor yX3_put.desc).map (fun d => d.parameters.length) = some 1 := by decide +kernel
theorem hmyX3_put : yX3_put.cls ≠ "java/lang/invoke/MethodHandle" ∧ yX3_put.cls ≠ "java/lang/invoke/VarHandle" := by decide +kernel
theorem wcyX3_put : Cond.code yX3_put cX3_put 3 (some .int) ∈ zT := zT_3 (List.mem_of_getElem? (i := 35) rfl) rfl
theorem hpyX4_allot : (parseMethodDescriptor yX4_allot.desc).map (fun d => d.parameters.length) = some 2 := by decide +kernel
theorem hmyX4_allot : yX4_allot.cls ≠ "java/lang/invoke/MethodHandle" ∧ yX4_allot.cls ≠ "java/lang/invoke/VarHandle" := by decide +kernel
theorem wcyX4_allot : Cond.code yX4_allot cX4_allot 8 none ∈ zT := zT_4 (List.mem_of_getElem? (i := 209) rfl) rfl
theorem hpyX4_daysToPlace : (parseMethodDescriptor yX4_daysToPlace.desc).map (fun d => d.parameters.length) = some 4 := by decide +kernel
theorem hmyX4_daysToPlace : yX4_daysToPlace.cls ≠ "java/lang/invoke/MethodHandle" ∧ yX4_daysToPlace.cls ≠ "java/lang/invoke/VarHandle" := by decide +kernel
theorem wcyX4_daysToPlace : Cond.code yX4_daysToPlace cX4_daysToPlace 9 (some .int) ∈ zT := zT_4 (List.mem_of_getElem? (i := 179) rfl) rfl
theorem hpyX4_daysToServe : (parseMethodDescriptor yX4_daysToServe.desc).map (fun d => d.parameters.length) = some 4 := by decide +kernel
theorem hmyX4_daysToServe : yX4_daysToServe.cls ≠ "java/lang/invoke/MethodHandle" ∧ yX4_daysToServe.cls ≠ "java/lang/invoke/VarHandle" := by decide +kernel
theorem wcyX4_daysToServe : Cond.code yX4_daysToServe cX4_daysToServe 12 (some .int) ∈ zT := zT_4 (List.mem_of_getElem? (i := 194) rfl) rfl
theorem hpyX4_foretell : (parseMethodDescriptor yX4_foretell.desc).map (fun d => d.parameters.length) = some 3 := by decide +kernel
theorem hmyX4_foretell : yX4_foretell.cls ≠ "java/lang/invoke/MethodHandle" ∧ yX4_foretell.cls ≠ "java/lang/invoke/VarHandle" := by decide +kernel
theorem wcyX4_foretell : Cond.code yX4_foretell cX4_foretell 5 none ∈ zT := zT_4 (List.mem_of_getElem? (i := 118) rfl) rfl
theorem hpyX4_forget : (parseMethodDescriptor yX4_forget.desc).map (fun d => d.parameters.length) = some 0 := by decide +kernel
theorem hmyX4_forget : yX4_forget.cls ≠ "java/lang/invoke/MethodHandle" ∧ yX4_forget.cls ≠ "java/lang/invoke/VarHandle" := by decide +kernel
theorem wcyX4_forget : Cond.code yX4_forget cX4_forget 1 none ∈ zT := zT_3 (List.mem_of_getElem? (i := 153) rfl) rfl
theorem hpyX4_keepRow : (parseMethodDescriptor yX4_keepRow.desc).map (fun d => d.parameters.length) = some 3 := by decide +kernel
theorem hmyX4_keepRow : yX4_keepRow.cls ≠ "java/lang/invoke/MethodHandle" ∧ yX4_keepRow.cls ≠ "java/lang/invoke/VarHandle" := by decide +kernel
theorem wcyX4_keepRow : Cond.code yX4_keepRow cX4_keepRow 7 none ∈ zT := zT_4 (List.mem_of_getElem? (i := 219) rfl) rfl
theorem hpyX4_placeOn : (parseMethodDescriptor yX4_placeOn.desc).map (fun d => d.parameters.length) = some 2 := by decide +kernel
theorem hmyX4_placeOn : yX4_placeOn.cls ≠ "java/lang/invoke/MethodHandle" ∧ yX4_placeOn.cls ≠ "java/lang/invoke/VarHandle" := by decide +kernel
theorem wcyX4_placeOn : Cond.code yX4_placeOn cX4_placeOn 3 (some .int) ∈ zT := zT_4 (List.mem_of_getElem? (i := 134) rfl) rfl
theorem hpyX4_swimsOn : (parseMethodDescriptor yX4_swimsOn.desc).map (fun d => d.parameters.length) = some 4 := by decide +kernel
theorem hmyX4_swimsOn : yX4_swimsOn.cls ≠ "java/lang/invoke/MethodHandle" ∧ yX4_swimsOn.cls ≠ "java/lang/invoke/VarHandle" := by decide +kernel
theorem wcyX4_swimsOn : Cond.code yX4_swimsOn cX4_swimsOn 4 (some .int) ∈ zT := zT_4 (List.mem_of_getElem? (i := 182) rfl) rfl
theorem hpyX4_waterOn : (parseMethodDescriptor yX4_waterOn.desc).map (fun d => d.parameters.length) = some 2 := by decide +kernel
theorem hmyX4_waterOn : yX4_waterOn.cls ≠ "java/lang/invoke/MethodHandle" ∧ yX4_waterOn.cls ≠ "java/lang/invoke/VarHandle" := by decide +kernel
theorem wcyX4_waterOn : Cond.code yX4_waterOn cX4_waterOn 3 (some .int) ∈ zT := zT_4 (List.mem_of_getElem? (i := 126) rfl) rfl
theorem hpyX4_weighRow : (parseMethodDescriptor yX4_weighRow.desc).map (fun d => d.parameters.length) = some 3 := by decide +kernel
theorem hmyX4_weighRow : yX4_weighRow.cls ≠ "java/lang/invoke/MethodHandle" ∧ yX4_weighRow.cls ≠ "java/lang/invoke/VarHandle" := by decide +kernel
theorem wcyX4_weighRow : Cond.code yX4_weighRow cX4_weighRow 10 none ∈ zT := zT_4 (List.mem_of_getElem? (i := 214) rfl) rfl
theorem hpyX4_wetOn : (parseMethodDescriptor yX4_wetOn.desc).map (fun d => d.parameters.length) = some 1 := by decide +kernel
theorem hmyX4_wetOn : yX4_wetOn.cls ≠ "java/lang/invoke/MethodHandle" ∧ yX4_wetOn.cls ≠ "java/lang/invoke/VarHandle" := by decide +kernel
theorem wcyX4_wetOn : Cond.code yX4_wetOn cX4_wetOn 2 (some .int) ∈ zT := zT_4 (List.mem_of_getElem? (i := 146) rfl) rfl
theorem hpyX5_copy : (parseMethodDescriptor yX5_copy.desc).map (fun d => d.parameters.length) = some 1 := by decide +kernel
theorem hmyX5_copy : yX5_copy.cls ≠ "java/lang/invoke/MethodHandle" ∧ yX5_copy.cls ≠ "java/lang/invoke/VarHandle" := by decide +kernel
theorem wcyX5_copy : Cond.code yX5_copy cX5_copy 3 none ∈ zT := zT_4 (List.mem_of_getElem? (i := 95) rfl) rfl
theorem hpyX5_put : (parseMethodDescriptor yX5_put.desc).map (fun d => d.parameters.length) = some 3 := by decide +kernel
theorem hmyX5_put : yX5_put.cls ≠ "java/lang/invoke/MethodHandle" ∧ yX5_put.cls ≠ "java/lang/invoke/VarHandle" := by decide +kernel
theorem wcyX5_put : Cond.code yX5_put cX5_put 4 (some .boolean) ∈ zT := zT_5 (List.mem_of_getElem? (i := 48) rfl) rfl
theorem hpyX6_copy : (parseMethodDescriptor yX6_copy.desc).map (fun d => d.parameters.length) = some 1 := by decide +kernel
theorem hmyX6_copy : yX6_copy.cls ≠ "java/lang/invoke/MethodHandle" ∧ yX6_copy.cls ≠ "java/lang/invoke/VarHandle" := by decide +kernel
theorem wcyX6_copy : Cond.code yX6_copy cX6_copy 2 none ∈ zT := zT_4 (List.mem_of_getElem? (i := 90) rfl) rfl
theorem hpyX6_read : (parseMethodDescriptor yX6_read.desc).map (fun d => d.parameters.length) = some 2 := by decide +kernel
theorem hmyX6_read : yX6_read.cls ≠ "java/lang/invoke/MethodHandle" ∧ yX6_read.cls ≠ "java/lang/invoke/VarHandle" := by decide +kernel
theorem wcyX6_read : Cond.code yX6_read cX6_read 4 none ∈ zT := zT_3 (List.mem_of_getElem? (i := 161) rfl) rfl
theorem hpyX6_readLine : (parseMethodDescriptor yX6_readLine.desc).map (fun d => d.parameters.length) = some 2 := by decide +kernel
theorem hmyX6_readLine : yX6_readLine.cls ≠ "java/lang/invoke/MethodHandle" ∧ yX6_readLine.cls ≠ "java/lang/invoke/VarHandle" := by decide +kernel
theorem wcyX6_readLine : Cond.code yX6_readLine cX6_readLine 4 none ∈ zT := zT_3 (List.mem_of_getElem? (i := 167) rfl) rfl
theorem hpyX6_sortOf : (parseMethodDescriptor yX6_sortOf.desc).map (fun d => d.parameters.length) = some 1 := by decide +kernel
theorem hmyX6_sortOf : yX6_sortOf.cls ≠ "java/lang/invoke/MethodHandle" ∧ yX6_sortOf.cls ≠ "java/lang/invoke/VarHandle" := by decide +kernel
theorem wcyX6_sortOf : Cond.code yX6_sortOf cX6_sortOf 1 (some .int) ∈ zT := zT_3 (List.mem_of_getElem? (i := 170) rfl) rfl
theorem hpyX7_begin : (parseMethodDescriptor yX7_begin.desc).map (fun d => d.parameters.length) = some 1 := by decide +kernel
theorem hmyX7_begin : yX7_begin.cls ≠ "java/lang/invoke/MethodHandle" ∧ yX7_begin.cls ≠ "java/lang/invoke/VarHandle" := by decide +kernel
theorem wcyX7_begin : Cond.code yX7_begin cX7_begin 3 none ∈ zT := zT_2 (List.mem_of_getElem? (i := 97) rfl) rfl
theorem hpyX7_bestPlace : (parseMethodDescriptor yX7_bestPlace.desc).map (fun d => d.parameters.length) = some 3 := by decide +kernel
theorem hmyX7_bestPlace : yX7_bestPlace.cls ≠ "java/lang/invoke/MethodHandle" ∧ yX7_bestPlace.cls ≠ "java/lang/invoke/VarHandle" := by decide +kernel
theorem wcyX7_bestPlace : Cond.code yX7_bestPlace cX7_bestPlace 6 (some .int) ∈ zT := zT_4 (List.mem_of_getElem? (i := 72) rfl) rfl
theorem hpyX7_copy : (parseMethodDescriptor yX7_copy.desc).map (fun d => d.parameters.length) = some 1 := by decide +kernel
theorem hmyX7_copy : yX7_copy.cls ≠ "java/lang/invoke/MethodHandle" ∧ yX7_copy.cls ≠ "java/lang/invoke/VarHandle" := by decide +kernel
theorem wcyX7_copy : Cond.code yX7_copy cX7_copy 2 none ∈ zT := zT_4 (List.mem_of_getElem? (i := 13) rfl) rfl
theorem hpyX7_doLine : (parseMethodDescriptor yX7_doLine.desc).map (fun d => d.parameters.length) = some 4 := by decide +kernel
theorem hmyX7_doLine : yX7_doLine.cls ≠ "java/lang/invoke/MethodHandle" ∧ yX7_doLine.cls ≠ "java/lang/invoke/VarHandle" := by decide +kernel
theorem wcyX7_doLine : Cond.code yX7_doLine cX7_doLine 5 (some .boolean) ∈ zT := zT_4 (List.mem_of_getElem? (i := 105) rfl) rfl
theorem hpyX7_doSwim : (parseMethodDescriptor yX7_doSwim.desc).map (fun d => d.parameters.length) = some 2 := by decide +kernel
theorem hmyX7_doSwim : yX7_doSwim.cls ≠ "java/lang/invoke/MethodHandle" ∧ yX7_doSwim.cls ≠ "java/lang/invoke/VarHandle" := by decide +kernel
theorem wcyX7_doSwim : Cond.code yX7_doSwim cX7_doSwim 3 none ∈ zT := zT_4 (List.mem_of_getElem? (i := 29) rfl) rfl
theorem hpyX7_isServable : (parseMethodDescriptor yX7_isServable.desc).map (fun d => d.parameters.length) = some 2 := by decide +kernel
theorem hmyX7_isServable : yX7_isServable.cls ≠ "java/lang/invoke/MethodHandle" ∧ yX7_isServable.cls ≠ "java/lang/invoke/VarHandle" := by decide +kernel
theorem wcyX7_isServable : Cond.code yX7_isServable cX7_isServable 2 (some .boolean) ∈ zT := zT_4 (List.mem_of_getElem? (i := 40) rfl) rfl
theorem hpyX7_mayServe : (parseMethodDescriptor yX7_mayServe.desc).map (fun d => d.parameters.length) = some 2 := by decide +kernel
theorem hmyX7_mayServe : yX7_mayServe.cls ≠ "java/lang/invoke/MethodHandle" ∧ yX7_mayServe.cls ≠ "java/lang/invoke/VarHandle" := by decide +kernel
theorem wcyX7_mayServe : Cond.code yX7_mayServe cX7_mayServe 5 (some .boolean) ∈ zT := zT_4 (List.mem_of_getElem? (i := 37) rfl) rfl
theorem hpyX7_maySwim : (parseMethodDescriptor yX7_maySwim.desc).map (fun d => d.parameters.length) = some 3 := by decide +kernel
theorem hmyX7_maySwim : yX7_maySwim.cls ≠ "java/lang/invoke/MethodHandle" ∧ yX7_maySwim.cls ≠ "java/lang/invoke/VarHandle" := by decide +kernel
theorem wcyX7_maySwim : Cond.code yX7_maySwim cX7_maySwim 5 (some .boolean) ∈ zT := zT_4 (List.mem_of_getElem? (i := 24) rfl) rfl
theorem hpyX7_mayTake : (parseMethodDescriptor yX7_mayTake.desc).map (fun d => d.parameters.length) = some 3 := by decide +kernel
theorem hmyX7_mayTake : yX7_mayTake.cls ≠ "java/lang/invoke/MethodHandle" ∧ yX7_mayTake.cls ≠ "java/lang/invoke/VarHandle" := by decide +kernel
theorem wcyX7_mayTake : Cond.code yX7_mayTake cX7_mayTake 4 (some .boolean) ∈ zT := zT_3 (List.mem_of_getElem? (i := 237) rfl) rfl
theorem hpyX7_nextDay : (parseMethodDescriptor yX7_nextDay.desc).map (fun d => d.parameters.length) = some 1 := by decide +kernel
theorem hmyX7_nextDay : yX7_nextDay.cls ≠ "java/lang/invoke/MethodHandle" ∧ yX7_nextDay.cls ≠ "java/lang/invoke/VarHandle" := by decide +kernel
theorem wcyX7_nextDay : Cond.code yX7_nextDay cX7_nextDay 4 none ∈ zT := zT_4 (List.mem_of_getElem? (i := 48) rfl) rfl
theorem hpyX7_rest : (parseMethodDescriptor yX7_rest.desc).map (fun d => d.parameters.length) = some 0 := by decide +kernel
theorem hmyX7_rest : yX7_rest.cls ≠ "java/lang/invoke/MethodHandle" ∧ yX7_rest.cls ≠ "java/lang/invoke/VarHandle" := by decide +kernel
theorem wcyX7_rest : Cond.code yX7_rest cX7_rest 2 none ∈ zT := zT_2 (List.mem_of_getElem? (i := 104) rfl) rfl
theorem hpyX7_waterTogether : (parseMethodDescriptor yX7_waterTogether.desc).map (fun d => d.parameters.length) = some 1 := by decide +kernel
theorem hmyX7_waterTogether : yX7_waterTogether.cls ≠ "java/lang/invoke/MethodHandle" ∧ yX7_waterTogether.cls ≠ "java/lang/invoke/VarHandle" := by decide +kernel
theorem wcyX7_waterTogether : Cond.code yX7_waterTogether cX7_waterTogether 4 (some .int) ∈ zT := zT_5 (List.mem_of_getElem? (i := 98) rfl) rfl
theorem hpyX7_wetBits : (parseMethodDescriptor yX7_wetBits.desc).map (fun d => d.parameters.length) = some 1 := by decide +kernel
theorem hmyX7_wetBits : yX7_wetBits.cls ≠ "java/lang/invoke/MethodHandle" ∧ yX7_wetBits.cls ≠ "java/lang/invoke/VarHandle" := by decide +kernel
theorem wcyX7_wetBits : Cond.code yX7_wetBits cX7_wetBits 4 (some .int) ∈ zT := zT_3 (List.mem_of_getElem? (i := 229) rfl) rfl
theorem hpyX8_append : (parseMethodDescriptor yX8_append.desc).map (fun d => d.parameters.length) = some 1 := by decide +kernel
theorem hmyX8_append : yX8_append.cls ≠ "java/lang/invoke/MethodHandle" ∧ yX8_append.cls ≠ "java/lang/invoke/VarHandle" := by decide +kernel
theorem wcyX8_append : Cond.code yX8_append cX8_append 5 none ∈ zT := zT_2 (List.mem_of_getElem? (i := 158) rfl) rfl
theorem hpyX8_atName : (parseMethodDescriptor yX8_atName.desc).map (fun d => d.parameters.length) = some 0 := by decide +kernel
theorem hmyX8_atName : yX8_atName.cls ≠ "java/lang/invoke/MethodHandle" ∧ yX8_atName.cls ≠ "java/lang/invoke/VarHandle" := by decide +kernel
theorem wcyX8_atName : Cond.code yX8_atName cX8_atName 1 (some .boolean) ∈ zT := zT_2 (List.mem_of_getElem? (i := 235) rfl) rfl
theorem hpyX8_atNumber : (parseMethodDescriptor yX8_atNumber.desc).map (fun d => d.parameters.length) = some 0 := by decide +kernel
theorem hmyX8_atNumber : yX8_atNumber.cls ≠ "java/lang/invoke/MethodHandle" ∧ yX8_atNumber.cls ≠ "java/lang/invoke/VarHandle" := by decide +kernel
theorem wcyX8_atNumber : Cond.code yX8_atNumber cX8_atNumber 1 (some .boolean) ∈ zT := zT_3 (List.mem_of_getElem? (i := 23) rfl) rfl
theorem hpyX8_atSign : (parseMethodDescriptor yX8_atSign.desc).map (fun d => d.parameters.length) = some 1 := by decide +kernel
theorem hmyX8_atSign : yX8_atSign.cls ≠ "java/lang/invoke/MethodHandle" ∧ yX8_atSign.cls ≠ "java/lang/invoke/VarHandle" := by decide +kernel
theorem wcyX8_atSign : Cond.code yX8_atSign cX8_atSign 2 (some .boolean) ∈ zT := zT_3 (List.mem_of_getElem? (i := 31) rfl) rfl
theorem hpyX8_atWord : (parseMethodDescriptor yX8_atWord.desc).map (fun d => d.parameters.length) = some 1 := by decide +kernel
theorem hmyX8_atWord : yX8_atWord.cls ≠ "java/lang/invoke/MethodHandle" ∧ yX8_atWord.cls ≠ "java/lang/invoke/VarHandle" := by decide +kernel
theorem wcyX8_atWord : Cond.code yX8_atWord cX8_atWord 3 (some .boolean) ∈ zT := zT_2 (List.mem_of_getElem? (i := 207) rfl) rfl
theorem hpyX8_begin : (parseMethodDescriptor yX8_begin.desc).map (fun d => d.parameters.length) = some 0 := by decide +kernel
theorem hmyX8_begin : yX8_begin.cls ≠ "java/lang/invoke/MethodHandle" ∧ yX8_begin.cls ≠ "java/lang/invoke/VarHandle" := by decide +kernel
theorem wcyX8_begin : Cond.code yX8_begin cX8_begin 1 none ∈ zT := zT_2 (List.mem_of_getElem? (i := 178) rfl) rfl
theorem hpyX8_fail : (parseMethodDescriptor yX8_fail.desc).map (fun d => d.parameters.length) = some 1 := by decide +kernel
theorem hmyX8_fail : yX8_fail.cls ≠ "java/lang/invoke/MethodHandle" ∧ yX8_fail.cls ≠ "java/lang/invoke/VarHandle" := by decide +kernel
theorem wcyX8_fail : Cond.code yX8_fail cX8_fail 2 none ∈ zT := zT_2 (List.mem_of_getElem? (i := 222) rfl) rfl
theorem hpyX8_failAt : (parseMethodDescriptor yX8_failAt.desc).map (fun d => d.parameters.length) = some 2 := by decide +kernel
theorem hmyX8_failAt : yX8_failAt.cls ≠ "java/lang/invoke/MethodHandle" ∧ yX8_failAt.cls ≠ "java/lang/invoke/VarHandle" := by decide +kernel
theorem wcyX8_failAt : Cond.code yX8_failAt cX8_failAt 3 none ∈ zT := zT_2 (List.mem_of_getElem? (i := 226) rfl) rfl
theorem hpyX8_finish : (parseMethodDescriptor yX8_finish.desc).map (fun d => d.parameters.length) = some 0 := by decide +kernel
theorem hmyX8_finish : yX8_finish.cls ≠ "java/lang/invoke/MethodHandle" ∧ yX8_finish.cls ≠ "java/lang/invoke/VarHandle" := by decide +kernel
theorem wcyX8_finish : Cond.code yX8_finish cX8_finish 1 (some .int) ∈ zT := zT_3 (List.mem_of_getElem? (i := 141) rfl) rfl
theorem hpyX8_isFine : (parseMethodDescriptor yX8_isFine.desc).map (fun d => d.parameters.length) = some 0 := by decide +kernel
theorem hmyX8_isFine : yX8_isFine.cls ≠ "java/lang/invoke/MethodHandle" ∧ yX8_isFine.cls ≠ "java/lang/invoke/VarHandle" := by decide +kernel
theorem wcyX8_isFine : Cond.code yX8_isFine cX8_isFine 1 (some .boolean) ∈ zT := zT_2 (List.mem_of_getElem? (i := 198) rfl) rfl
theorem hpyX8_isKept : (parseMethodDescriptor yX8_isKept.desc).map (fun d => d.parameters.length) = some 1 := by decide +kernel
theorem hmyX8_isKept : yX8_isKept.cls ≠ "java/lang/invoke/MethodHandle" ∧ yX8_isKept.cls ≠ "java/lang/invoke/VarHandle" := by decide +kernel
theorem wcyX8_isKept : Cond.code yX8_isKept cX8_isKept 3 (some .boolean) ∈ zT := zT_2 (List.mem_of_getElem? (i := 238) rfl) rfl
theorem hpyX8_isSign : (parseMethodDescriptor yX8_isSign.desc).map (fun d => d.parameters.length) = some 1 := by decide +kernel
theorem hmyX8_isSign : yX8_isSign.cls ≠ "java/lang/invoke/MethodHandle" ∧ yX8_isSign.cls ≠ "java/lang/invoke/VarHandle" := by decide +kernel
theorem wcyX8_isSign : Cond.code yX8_isSign cX8_isSign 1 (some .boolean) ∈ zT := zT_2 (List.mem_of_getElem? (i := 194) rfl) rfl
theorem hpyX8_passNumber : (parseMethodDescriptor yX8_passNumber.desc).map (fun d => d.parameters.length) = some 2 := by decide +kernel
theorem hmyX8_passNumber : yX8_passNumber.cls ≠ "java/lang/invoke/MethodHandle" ∧ yX8_passNumber.cls ≠ "java/lang/invoke/VarHandle" := by decide +kernel
theorem wcyX8_passNumber : Cond.code yX8_passNumber cX8_passNumber 4 (some .int) ∈ zT := zT_3 (List.mem_of_getElem? (i := 19) rfl) rfl
theorem hpyX8_passSign : (parseMethodDescriptor yX8_passSign.desc).map (fun d => d.parameters.length) = some 1 := by decide +kernel
theorem hmyX8_passSign : yX8_passSign.cls ≠ "java/lang/invoke/MethodHandle" ∧ yX8_passSign.cls ≠ "java/lang/invoke/VarHandle" := by decide +kernel
theorem wcyX8_passSign : Cond.code yX8_passSign cX8_passSign 2 none ∈ zT := zT_3 (List.mem_of_getElem? (i := 27) rfl) rfl
theorem hpyX8_passTold : (parseMethodDescriptor yX8_passTold.desc).map (fun d => d.parameters.length) = some 1 := by decide +kernel
theorem hmyX8_passTold : yX8_passTold.cls ≠ "java/lang/invoke/MethodHandle" ∧ yX8_passTold.cls ≠ "java/lang/invoke/VarHandle" := by decide +kernel
theorem wcyX8_passTold : Cond.code yX8_passTold cX8_passTold 3 (some .int) ∈ zT := zT_3 (List.mem_of_getElem? (i := 44) rfl) rfl
theorem hpyX8_passWord : (parseMethodDescriptor yX8_passWord.desc).map (fun d => d.parameters.length) = some 1 := by decide +kernel
theorem hmyX8_passWord : yX8_passWord.cls ≠ "java/lang/invoke/MethodHandle" ∧ yX8_passWord.cls ≠ "java/lang/invoke/VarHandle" := by decide +kernel
theorem wcyX8_passWord : Cond.code yX8_passWord cX8_passWord 3 none ∈ zT := zT_3 (List.mem_of_getElem? (i := 14) rfl) rfl
theorem hpyX8_readNumber : (parseMethodDescriptor yX8_readNumber.desc).map (fun d => d.parameters.length) = some 0 := by decide +kernel
theorem hmyX8_readNumber : yX8_readNumber.cls ≠ "java/lang/invoke/MethodHandle" ∧ yX8_readNumber.cls ≠ "java/lang/invoke/VarHandle" := by decide +kernel
theorem wcyX8_readNumber : Cond.code yX8_readNumber cX8_readNumber 1 none ∈ zT := zT_2 (List.mem_of_getElem? (i := 190) rfl) rfl
theorem hpyX8_readWord : (parseMethodDescriptor yX8_readWord.desc).map (fun d => d.parameters.length) = some 0 := by decide +kernel
theorem hmyX8_readWord : yX8_readWord.cls ≠ "java/lang/invoke/MethodHandle" ∧ yX8_readWord.cls ≠ "java/lang/invoke/VarHandle" := by decide +kernel
theorem wcyX8_readWord : Cond.code yX8_readWord cX8_readWord 1 none ∈ zT := zT_2 (List.mem_of_getElem? (i := 186) rfl) rfl
theorem hpyX8_step : (parseMethodDescriptor yX8_step.desc).map (fun d => d.parameters.length) = some 0 := by decide +kernel
theorem hmyX8_step : yX8_step.cls ≠ "java/lang/invoke/MethodHandle" ∧ yX8_step.cls ≠ "java/lang/invoke/VarHandle" := by decide +kernel
theorem wcyX8_step : Cond.code yX8_step cX8_step 1 none ∈ zT := zT_2 (List.mem_of_getElem? (i := 182) rfl) rfl
theorem hpyX10_begins : (parseMethodDescriptor yX10_begins.desc).map (fun d => d.parameters.length) = some 0 := by decide +kernel
theorem hmyX10_begins : yX10_begins.cls ≠ "java/lang/invoke/MethodHandle" ∧ yX10_begins.cls ≠ "java/lang/invoke/VarHandle" := by decide +kernel
theorem wcyX10_begins : Cond.code yX10_begins cX10_begins 1 none ∈ zT := zT_6 (List.mem_of_getElem? (i := 171) rfl) rfl
theorem hpyX10_between : (parseMethodDescriptor yX10_between.desc).map (fun d => d.parameters.length) = some 3 := by decide +kernel
theorem hmyX10_between : yX10_between.cls ≠ "java/lang/invoke/MethodHandle" ∧ yX10_between.cls ≠ "java/lang/invoke/VarHandle" := by decide +kernel
theorem wcyX10_between : Cond.code yX10_between cX10_between 3 (some .int) ∈ zT := zT_7 (List.mem_of_getElem? (i := 222) rfl) rfl
theorem hpyX10_bits : (parseMethodDescriptor yX10_bits.desc).map (fun d => d.parameters.length) = some 1 := by decide +kernel
theorem hmyX10_bits : yX10_bits.cls ≠ "java/lang/invoke/MethodHandle" ∧ yX10_bits.cls ≠ "java/lang/invoke/VarHandle" := by decide +kernel
theorem wcyX10_bits : Cond.code yX10_bits cX10_bits 3 (some .int) ∈ zT := zT_7 (List.mem_of_getElem? (i := 148) rfl) rfl
theorem hpyX10_canServe : (parseMethodDescriptor yX10_canServe.desc).map (fun d => d.parameters.length) = some 1 := by decide +kernel
theorem hmyX10_canServe : yX10_canServe.cls ≠ "java/lang/invoke/MethodHandle" ∧ yX10_canServe.cls ≠ "java/lang/invoke/VarHandle" := by decide +kernel
theorem wcyX10_canServe : Cond.code yX10_canServe cX10_canServe 4 (some .boolean) ∈ zT := zT_7 (List.mem_of_getElem? (i := 179) rfl) rfl
theorem hpyX10_canSwim : (parseMethodDescriptor yX10_canSwim.desc).map (fun d => d.parameters.length) = some 1 := by decide +kernel
theorem hmyX10_canSwim : yX10_canSwim.cls ≠ "java/lang/invoke/MethodHandle" ∧ yX10_canSwim.cls ≠ "java/lang/invoke/VarHandle" := by decide +kernel
theorem wcyX10_canSwim : Cond.code yX10_canSwim cX10_canSwim 3 (some .int) ∈ zT := zT_7 (List.mem_of_getElem? (i := 163) rfl) rfl
theorem hpyX10_canTake : (parseMethodDescriptor yX10_canTake.desc).map (fun d => d.parameters.length) = some 2 := by decide +kernel
theorem hmyX10_canTake : yX10_canTake.cls ≠ "java/lang/invoke/MethodHandle" ∧ yX10_canTake.cls ≠ "java/lang/invoke/VarHandle" := by decide +kernel
theorem wcyX10_canTake : Cond.code yX10_canTake cX10_canTake 3 (some .boolean) ∈ zT := zT_7 (List.mem_of_getElem? (i := 145) rfl) rfl
theorem hpyX10_closes : (parseMethodDescriptor yX10_closes.desc).map (fun d => d.parameters.length) = some 0 := by decide +kernel
theorem hmyX10_closes : yX10_closes.cls ≠ "java/lang/invoke/MethodHandle" ∧ yX10_closes.cls ≠ "java/lang/invoke/VarHandle" := by decide +kernel
theorem wcyX10_closes : Cond.code yX10_closes cX10_closes 1 (some .boolean) ∈ zT := zT_7 (List.mem_of_getElem? (i := 23) rfl) rfl
theorem hpyX10_comes : (parseMethodDescriptor yX10_comes.desc).map (fun d => d.parameters.length) = some 2 := by decide +kernel
theorem hmyX10_comes : yX10_comes.cls ≠ "java/lang/invoke/MethodHandle" ∧ yX10_comes.cls ≠ "java/lang/invoke/VarHandle" := by decide +kernel
theorem wcyX10_comes : Cond.code yX10_comes cX10_comes 4 (some .int) ∈ zT := zT_8 (List.mem_of_getElem? (i := 10) rfl) rfl
theorem hpyX10_copies : (parseMethodDescriptor yX10_copies.desc).map (fun d => d.parameters.length) = some 4 := by decide +kernel
theorem hmyX10_copies : yX10_copies.cls ≠ "java/lang/invoke/MethodHandle" ∧ yX10_copies.cls ≠ "java/lang/invoke/VarHandle" := by decide +kernel
theorem wcyX10_copies : Cond.code yX10_copies cX10_copies 5 none ∈ zT := zT_7 (List.mem_of_getElem? (i := 155) rfl) rfl
theorem hpyX10_draws : (parseMethodDescriptor yX10_draws.desc).map (fun d => d.parameters.length) = some 1 := by decide +kernel
theorem hmyX10_draws : yX10_draws.cls ≠ "java/lang/invoke/MethodHandle" ∧ yX10_draws.cls ≠ "java/lang/invoke/VarHandle" := by decide +kernel
theorem wcyX10_draws : Cond.code yX10_draws cX10_draws 2 (some .int) ∈ zT := zT_8 (List.mem_of_getElem? (i := 156) rfl) rfl
theorem hpyX10_every : (parseMethodDescriptor yX10_every.desc).map (fun d => d.parameters.length) = some 0 := by decide +kernel
theorem hmyX10_every : yX10_every.cls ≠ "java/lang/invoke/MethodHandle" ∧ yX10_every.cls ≠ "java/lang/invoke/VarHandle" := by decide +kernel
theorem wcyX10_every : Cond.code yX10_every cX10_every 1 (some .int) ∈ zT := zT_8 (List.mem_of_getElem? (i := 79) rfl) rfl
theorem hpyX10_fact : (parseMethodDescriptor yX10_fact.desc).map (fun d => d.parameters.length) = some 0 := by decide +kernel
theorem hmyX10_fact : yX10_fact.cls ≠ "java/lang/invoke/MethodHandle" ∧ yX10_fact.cls ≠ "java/lang/invoke/VarHandle" := by decide +kernel
theorem wcyX10_fact : Cond.code yX10_fact cX10_fact 1 (some .int) ∈ zT := zT_7 (List.mem_of_getElem? (i := 67) rfl) rfl
theorem hpyX10_fails : (parseMethodDescriptor yX10_fails.desc).map (fun d => d.parameters.length) = some 1 := by decide +kernel
theorem hmyX10_fails : yX10_fails.cls ≠ "java/lang/invoke/MethodHandle" ∧ yX10_fails.cls ≠ "java/lang/invoke/VarHandle" := by decide +kernel
theorem wcyX10_fails : Cond.code yX10_fails cX10_fails 2 (some .boolean) ∈ zT := zT_6 (List.mem_of_getElem? (i := 194) rfl) rfl
theorem hpyX10_fresh0 : (parseMethodDescriptor yX10_fresh0.desc).map (fun d => d.parameters.length) = some 0 := by decide +kernel
theorem hmyX10_fresh0 : yX10_fresh0.cls ≠ "java/lang/invoke/MethodHandle" ∧ yX10_fresh0.cls ≠ "java/lang/invoke/VarHandle" := by decide +kernel
theorem wcyX10_fresh0 : Cond.code yX10_fresh0 cX10_fresh0 2 none ∈ zT := zT_5 (List.mem_of_getElem? (i := 188) rfl) rfl
theorem hpyX10_getsBy : (parseMethodDescriptor yX10_getsBy.desc).map (fun d => d.parameters.length) = some 5 := by decide +kernel
theorem hmyX10_getsBy : yX10_getsBy.cls ≠ "java/lang/invoke/MethodHandle" ∧ yX10_getsBy.cls ≠ "java/lang/invoke/VarHandle" := by decide +kernel
theorem wcyX10_getsBy : Cond.code yX10_getsBy cX10_getsBy 5 (some .int) ∈ zT := zT_8 (List.mem_of_getElem? (i := 144) rfl) rfl
theorem hpyX10_goesTo : (parseMethodDescriptor yX10_goesTo.desc).map (fun d => d.parameters.length) = some 1 := by decide +kernel
theorem hmyX10_goesTo : yX10_goesTo.cls ≠ "java/lang/invoke/MethodHandle" ∧ yX10_goesTo.cls ≠ "java/lang/invoke/VarHandle" := by decide +kernel
theorem wcyX10_goesTo : Cond.code yX10_goesTo cX10_goesTo 6 (some .int) ∈ zT := zT_7 (List.mem_of_getElem? (i := 226) rfl) rfl
theorem hpyX10_isAsSeen : (parseMethodDescriptor yX10_isAsSeen.desc).map (fun d => d.parameters.length) = some 1 := by decide +kernel
theorem hmyX10_isAsSeen : yX10_isAsSeen.cls ≠ "java/lang/invoke/MethodHandle" ∧ yX10_isAsSeen.cls ≠ "java/lang/invoke/VarHandle" := by decide +kernel
theorem wcyX10_isAsSeen : Cond.code yX10_isAsSeen cX10_isAsSeen 3 (some .boolean) ∈ zT := zT_8 (List.mem_of_getElem? (i := 126) rfl) rfl
theorem hpyX10_isFound : (parseMethodDescriptor yX10_isFound.desc).map (fun d => d.parameters.length) = some 1 := by decide +kernel
theorem hmyX10_isFound : yX10_isFound.cls ≠ "java/lang/invoke/MethodHandle" ∧ yX10_isFound.cls ≠ "java/lang/invoke/VarHandle" := by decide +kernel
theorem wcyX10_isFound : Cond.code yX10_isFound cX10_isFound 2 (some .boolean) ∈ zT := zT_7 (List.mem_of_getElem? (i := 39) rfl) rfl
theorem hpyX10_isKept : (parseMethodDescriptor yX10_isKept.desc).map (fun d => d.parameters.length) = some 0 := by decide +kernel
theorem hmyX10_isKept : yX10_isKept.cls ≠ "java/lang/invoke/MethodHandle" ∧ yX10_isKept.cls ≠ "java/lang/invoke/VarHandle" := by decide +kernel
theorem wcyX10_isKept : Cond.code yX10_isKept cX10_isKept 1 (some .boolean) ∈ zT := zT_6 (List.mem_of_getElem? (i := 202) rfl) rfl
theorem hpyX10_isOtter : (parseMethodDescriptor yX10_isOtter.desc).map (fun d => d.parameters.length) = some 1 := by decide +kernel
theorem hmyX10_isOtter : yX10_isOtter.cls ≠ "java/lang/invoke/MethodHandle" ∧ yX10_isOtter.cls ≠ "java/lang/invoke/VarHandle" := by decide +kernel
theorem wcyX10_isOtter : Cond.code yX10_isOtter cX10_isOtter 2 (some .boolean) ∈ zT := zT_7 (List.mem_of_getElem? (i := 125) rfl) rfl
theorem hpyX10_isPerson : (parseMethodDescriptor yX10_isPerson.desc).map (fun d => d.parameters.length) = some 1 := by decide +kernel
theorem hmyX10_isPerson : yX10_isPerson.cls ≠ "java/lang/invoke/MethodHandle" ∧ yX10_isPerson.cls ≠ "java/lang/invoke/VarHandle" := by decide +kernel
theorem wcyX10_isPerson : Cond.code yX10_isPerson cX10_isPerson 2 (some .boolean) ∈ zT := zT_7 (List.mem_of_getElem? (i := 117) rfl) rfl
theorem hpyX10_isPlace : (parseMethodDescriptor yX10_isPlace.desc).map (fun d => d.parameters.length) = some 1 := by decide +kernel
theorem hmyX10_isPlace : yX10_isPlace.cls ≠ "java/lang/invoke/MethodHandle" ∧ yX10_isPlace.cls ≠ "java/lang/invoke/VarHandle" := by decide +kernel
theorem wcyX10_isPlace : Cond.code yX10_isPlace cX10_isPlace 2 (some .boolean) ∈ zT := zT_7 (List.mem_of_getElem? (i := 105) rfl) rfl
theorem hpyX10_isServed : (parseMethodDescriptor yX10_isServed.desc).map (fun d => d.parameters.length) = some 2 := by decide +kernel
theorem hmyX10_isServed : yX10_isServed.cls ≠ "java/lang/invoke/MethodHandle" ∧ yX10_isServed.cls ≠ "java/lang/invoke/VarHandle" := by decide +kernel
theorem wcyX10_isServed : Cond.code yX10_isServed cX10_isServed 3 (some .boolean) ∈ zT := zT_7 (List.mem_of_getElem? (i := 183) rfl) rfl
theorem hpyX10_isSign : (parseMethodDescriptor yX10_isSign.desc).map (fun d => d.parameters.length) = some 1 := by decide +kernel
theorem hmyX10_isSign : yX10_isSign.cls ≠ "java/lang/invoke/MethodHandle" ∧ yX10_isSign.cls ≠ "java/lang/invoke/VarHandle" := by decide +kernel
theorem wcyX10_isSign : Cond.code yX10_isSign cX10_isSign 2 (some .boolean) ∈ zT := zT_7 (List.mem_of_getElem? (i := 27) rfl) rfl
theorem hpyX10_isWord : (parseMethodDescriptor yX10_isWord.desc).map (fun d => d.parameters.length) = some 1 := by decide +kernel
theorem hmyX10_isWord : yX10_isWord.cls ≠ "java/lang/invoke/MethodHandle" ∧ yX10_isWord.cls ≠ "java/lang/invoke/VarHandle" := by decide +kernel
theorem wcyX10_isWord : Cond.code yX10_isWord cX10_isWord 3 (some .boolean) ∈ zT := zT_6 (List.mem_of_getElem? (i := 186) rfl) rfl
theorem hpyX10_isWrit : (parseMethodDescriptor yX10_isWrit.desc).map (fun d => d.parameters.length) = some 1 := by decide +kernel
theorem hmyX10_isWrit : yX10_isWrit.cls ≠ "java/lang/invoke/MethodHandle" ∧ yX10_isWrit.cls ≠ "java/lang/invoke/VarHandle" := by decide +kernel
theorem wcyX10_isWrit : Cond.code yX10_isWrit cX10_isWrit 2 (some .boolean) ∈ zT := zT_7 (List.mem_of_getElem? (i := 137) rfl) rfl
theorem hpyX10_keeps : (parseMethodDescriptor yX10_keeps.desc).map (fun d => d.parameters.length) = some 0 := by decide +kernel
theorem hmyX10_keeps : yX10_keeps.cls ≠ "java/lang/invoke/MethodHandle" ∧ yX10_keeps.cls ≠ "java/lang/invoke/VarHandle" := by decide +kernel
theorem wcyX10_keeps : Cond.code yX10_keeps cX10_keeps 2 none ∈ zT := zT_7 (List.mem_of_getElem? (i := 152) rfl) rfl
theorem hpyX10_lays : (parseMethodDescriptor yX10_lays.desc).map (fun d => d.parameters.length) = some 0 := by decide +kernel
theorem hmyX10_lays : yX10_lays.cls ≠ "java/lang/invoke/MethodHandle" ∧ yX10_lays.cls ≠ "java/lang/invoke/VarHandle" := by decide +kernel
theorem wcyX10_lays : Cond.code yX10_lays cX10_lays 1 none ∈ zT := zT_7 (List.mem_of_getElem? (i := 79) rfl) rfl
theorem hpyX10_laysLines : (parseMethodDescriptor yX10_laysLines.desc).map (fun d => d.parameters.length) = some 2 := by decide +kernel
theorem hmyX10_laysLines : yX10_laysLines.cls ≠ "java/lang/invoke/MethodHandle" ∧ yX10_laysLines.cls ≠ "java/lang/invoke/VarHandle" := by decide +kernel
theorem wcyX10_laysLines : Cond.code yX10_laysLines cX10_laysLines 4 none ∈ zT := zT_7 (List.mem_of_getElem? (i := 97) rfl) rfl
theorem hpyX10_laysRains : (parseMethodDescriptor yX10_laysRains.desc).map (fun d => d.parameters.length) = some 0 := by decide +kernel
theorem hmyX10_laysRains : yX10_laysRains.cls ≠ "java/lang/invoke/MethodHandle" ∧ yX10_laysRains.cls ≠ "java/lang/invoke/VarHandle" := by decide +kernel
theorem wcyX10_laysRains : Cond.code yX10_laysRains cX10_laysRains 3 none ∈ zT := zT_8 (List.mem_of_getElem? (i := 122) rfl) rfl
theorem hpyX10_laysSeen : (parseMethodDescriptor yX10_laysSeen.desc).map (fun d => d.parameters.length) = some 2 := by decide +kernel
theorem hmyX10_laysSeen : yX10_laysSeen.cls ≠ "java/lang/invoke/MethodHandle" ∧ yX10_laysSeen.cls ≠ "java/lang/invoke/VarHandle" := by decide +kernel
theorem wcyX10_laysSeen : Cond.code yX10_laysSeen cX10_laysSeen 4 none ∈ zT := zT_8 (List.mem_of_getElem? (i := 168) rfl) rfl
theorem hpyX10_livesDay : (parseMethodDescriptor yX10_livesDay.desc).map (fun d => d.parameters.length) = some 0 := by decide +kernel
theorem hmyX10_livesDay : yX10_livesDay.cls ≠ "java/lang/invoke/MethodHandle" ∧ yX10_livesDay.cls ≠ "java/lang/invoke/VarHandle" := by decide +kernel
theorem wcyX10_livesDay : Cond.code yX10_livesDay cX10_livesDay 5 none ∈ zT := zT_8 (List.mem_of_getElem? (i := 152) rfl) rfl
theorem hpyX10_lowest : (parseMethodDescriptor yX10_lowest.desc).map (fun d => d.parameters.length) = some 1 := by decide +kernel
theorem hmyX10_lowest : yX10_lowest.cls ≠ "java/lang/invoke/MethodHandle" ∧ yX10_lowest.cls ≠ "java/lang/invoke/VarHandle" := by decide +kernel
theorem wcyX10_lowest : Cond.code yX10_lowest cX10_lowest 2 (some .int) ∈ zT := zT_8 (List.mem_of_getElem? (i := 98) rfl) rfl
theorem hpyX10_namedIn : (parseMethodDescriptor yX10_namedIn.desc).map (fun d => d.parameters.length) = some 3 := by decide +kernel
theorem hmyX10_namedIn : yX10_namedIn.cls ≠ "java/lang/invoke/MethodHandle" ∧ yX10_namedIn.cls ≠ "java/lang/invoke/VarHandle" := by decide +kernel
theorem wcyX10_namedIn : Cond.code yX10_namedIn cX10_namedIn 5 (some .int) ∈ zT := zT_6 (List.mem_of_getElem? (i := 232) rfl) rfl
theorem hpyX10_needsBoth : (parseMethodDescriptor yX10_needsBoth.desc).map (fun d => d.parameters.length) = some 3 := by decide +kernel
theorem hmyX10_needsBoth : yX10_needsBoth.cls ≠ "java/lang/invoke/MethodHandle" ∧ yX10_needsBoth.cls ≠ "java/lang/invoke/VarHandle" := by decide +kernel
theorem wcyX10_needsBoth : Cond.code yX10_needsBoth cX10_needsBoth 5 (some .boolean) ∈ zT := zT_7 (List.mem_of_getElem? (i := 8) rfl) rfl
theorem hpyX10_needsNew : (parseMethodDescriptor yX10_needsNew.desc).map (fun d => d.parameters.length) = some 0 := by decide +kernel
theorem hmyX10_needsNew : yX10_needsNew.cls ≠ "java/lang/invoke/MethodHandle" ∧ yX10_needsNew.cls ≠ "java/lang/invoke/VarHandle" := by decide +kernel
theorem wcyX10_needsNew : Cond.code yX10_needsNew cX10_needsNew 1 (some .boolean) ∈ zT := zT_6 (List.mem_of_getElem? (i := 198) rfl) rfl
theorem hpyX10_needsNumber : (parseMethodDescriptor yX10_needsNumber.desc).map (fun d => d.parameters.length) = some 2 := by decide +kernel
theorem hmyX10_needsNumber : yX10_needsNumber.cls ≠ "java/lang/invoke/MethodHandle" ∧ yX10_needsNumber.cls ≠ "java/lang/invoke/VarHandle" := by decide +kernel
theorem wcyX10_needsNumber : Cond.code yX10_needsNumber cX10_needsNumber 3 (some .boolean) ∈ zT := zT_7 (List.mem_of_getElem? (i := 16) rfl) rfl
theorem hpyX10_needsWord : (parseMethodDescriptor yX10_needsWord.desc).map (fun d => d.parameters.length) = some 1 := by decide +kernel
theorem hmyX10_needsWord : yX10_needsWord.cls ≠ "java/lang/invoke/MethodHandle" ∧ yX10_needsWord.cls ≠ "java/lang/invoke/VarHandle" := by decide +kernel
theorem wcyX10_needsWord : Cond.code yX10_needsWord cX10_needsWord 3 (some .boolean) ∈ zT := zT_7 (List.mem_of_getElem? (i := 12) rfl) rfl
theorem hpyX10_nextTo : (parseMethodDescriptor yX10_nextTo.desc).map (fun d => d.parameters.length) = some 1 := by decide +kernel
theorem hmyX10_nextTo : yX10_nextTo.cls ≠ "java/lang/invoke/MethodHandle" ∧ yX10_nextTo.cls ≠ "java/lang/invoke/VarHandle" := by decide +kernel
theorem wcyX10_nextTo : Cond.code yX10_nextTo cX10_nextTo 4 (some .int) ∈ zT := zT_8 (List.mem_of_getElem? (i := 39) rfl) rfl
theorem hpyX10_nextToken : (parseMethodDescriptor yX10_nextToken.desc).map (fun d => d.parameters.length) = some 0 := by decide +kernel
theorem hmyX10_nextToken : yX10_nextToken.cls ≠ "java/lang/invoke/MethodHandle" ∧ yX10_nextToken.cls ≠ "java/lang/invoke/VarHandle" := by decide +kernel
theorem wcyX10_nextToken : Cond.code yX10_nextToken cX10_nextToken 2 none ∈ zT := zT_6 (List.mem_of_getElem? (i := 175) rfl) rfl
theorem hpyX10_opens : (parseMethodDescriptor yX10_opens.desc).map (fun d => d.parameters.length) = some 1 := by decide +kernel
theorem hmyX10_opens : yX10_opens.cls ≠ "java/lang/invoke/MethodHandle" ∧ yX10_opens.cls ≠ "java/lang/invoke/VarHandle" := by decide +kernel
theorem wcyX10_opens : Cond.code yX10_opens cX10_opens 2 none ∈ zT := zT_7 (List.mem_of_getElem? (i := 211) rfl) rfl
theorem hpyX10_otterNamed : (parseMethodDescriptor yX10_otterNamed.desc).map (fun d => d.parameters.length) = some 1 := by decide +kernel
theorem hmyX10_otterNamed : yX10_otterNamed.cls ≠ "java/lang/invoke/MethodHandle" ∧ yX10_otterNamed.cls ≠ "java/lang/invoke/VarHandle" := by decide +kernel
theorem wcyX10_otterNamed : Cond.code yX10_otterNamed cX10_otterNamed 2 (some .int) ∈ zT := zT_7 (List.mem_of_getElem? (i := 0) rfl) rfl
theorem hpyX10_passes : (parseMethodDescriptor yX10_passes.desc).map (fun d => d.parameters.length) = some 1 := by decide +kernel
theorem hmyX10_passes : yX10_passes.cls ≠ "java/lang/invoke/MethodHandle" ∧ yX10_passes.cls ≠ "java/lang/invoke/VarHandle" := by decide +kernel
theorem wcyX10_passes : Cond.code yX10_passes cX10_passes 3 none ∈ zT := zT_7 (List.mem_of_getElem? (i := 199) rfl) rfl
theorem hpyX10_passesAsTold : (parseMethodDescriptor yX10_passesAsTold.desc).map (fun d => d.parameters.length) = some 0 := by decide +kernel
theorem hmyX10_passesAsTold : yX10_passesAsTold.cls ≠ "java/lang/invoke/MethodHandle" ∧ yX10_passesAsTold.cls ≠ "java/lang/invoke/VarHandle" := by decide +kernel
theorem wcyX10_passesAsTold : Cond.code yX10_passesAsTold cX10_passesAsTold 1 none ∈ zT := zT_7 (List.mem_of_getElem? (i := 191) rfl) rfl
theorem hpyX10_passesFound : (parseMethodDescriptor yX10_passesFound.desc).map (fun d => d.parameters.length) = some 1 := by decide +kernel
theorem hmyX10_passesFound : yX10_passesFound.cls ≠ "java/lang/invoke/MethodHandle" ∧ yX10_passesFound.cls ≠ "java/lang/invoke/VarHandle" := by decide +kernel
theorem wcyX10_passesFound : Cond.code yX10_passesFound cX10_passesFound 2 (some .boolean) ∈ zT := zT_7 (List.mem_of_getElem? (i := 35) rfl) rfl
theorem hpyX10_personNamed : (parseMethodDescriptor yX10_personNamed.desc).map (fun d => d.parameters.length) = some 1 := by decide +kernel
theorem hmyX10_personNamed : yX10_personNamed.cls ≠ "java/lang/invoke/MethodHandle" ∧ yX10_personNamed.cls ≠ "java/lang/invoke/VarHandle" := by decide +kernel
theorem wcyX10_personNamed : Cond.code yX10_personNamed cX10_personNamed 2 (some .int) ∈ zT := zT_6 (List.mem_of_getElem? (i := 236) rfl) rfl
theorem hpyX10_placeNamed : (parseMethodDescriptor yX10_placeNamed.desc).map (fun d => d.parameters.length) = some 1 := by decide +kernel
theorem hmyX10_placeNamed : yX10_placeNamed.cls ≠ "java/lang/invoke/MethodHandle" ∧ yX10_placeNamed.cls ≠ "java/lang/invoke/VarHandle" := by decide +kernel
theorem wcyX10_placeNamed : Cond.code yX10_placeNamed cX10_placeNamed 2 (some .int) ∈ zT := zT_6 (List.mem_of_getElem? (i := 228) rfl) rfl
theorem hpyX10_puts : (parseMethodDescriptor yX10_puts.desc).map (fun d => d.parameters.length) = some 1 := by decide +kernel
theorem hmyX10_puts : yX10_puts.cls ≠ "java/lang/invoke/MethodHandle" ∧ yX10_puts.cls ≠ "java/lang/invoke/VarHandle" := by decide +kernel
theorem wcyX10_puts : Cond.code yX10_puts cX10_puts 2 none ∈ zT := zT_7 (List.mem_of_getElem? (i := 75) rfl) rfl
theorem hpyX10_rainOf : (parseMethodDescriptor yX10_rainOf.desc).map (fun d => d.parameters.length) = some 1 := by decide +kernel
theorem hmyX10_rainOf : yX10_rainOf.cls ≠ "java/lang/invoke/MethodHandle" ∧ yX10_rainOf.cls ≠ "java/lang/invoke/VarHandle" := by decide +kernel
theorem wcyX10_rainOf : Cond.code yX10_rainOf cX10_rainOf 2 (some .int) ∈ zT := zT_7 (List.mem_of_getElem? (i := 195) rfl) rfl
theorem hpyX10_rains : (parseMethodDescriptor yX10_rains.desc).map (fun d => d.parameters.length) = some 0 := by decide +kernel
theorem hmyX10_rains : yX10_rains.cls ≠ "java/lang/invoke/MethodHandle" ∧ yX10_rains.cls ≠ "java/lang/invoke/VarHandle" := by decide +kernel
theorem wcyX10_rains : Cond.code yX10_rains cX10_rains 3 (some .int) ∈ zT := zT_8 (List.mem_of_getElem? (i := 118) rfl) rfl
theorem hpyX10_reads : (parseMethodDescriptor yX10_reads.desc).map (fun d => d.parameters.length) = some 0 := by decide +kernel
theorem hmyX10_reads : yX10_reads.cls ≠ "java/lang/invoke/MethodHandle" ∧ yX10_reads.cls ≠ "java/lang/invoke/VarHandle" := by decide +kernel
theorem wcyX10_reads : Cond.code yX10_reads cX10_reads 6 (some .boolean) ∈ zT := zT_7 (List.mem_of_getElem? (i := 63) rfl) rfl
theorem hpyX10_readsAll : (parseMethodDescriptor yX10_readsAll.desc).map (fun d => d.parameters.length) = some 0 := by decide +kernel
theorem hmyX10_readsAll : yX10_readsAll.cls ≠ "java/lang/invoke/MethodHandle" ∧ yX10_readsAll.cls ≠ "java/lang/invoke/VarHandle" := by decide +kernel
theorem wcyX10_readsAll : Cond.code yX10_readsAll cX10_readsAll 2 (some .boolean) ∈ zT := zT_6 (List.mem_of_getElem? (i := 167) rfl) rfl
theorem hpyX10_readsLine : (parseMethodDescriptor yX10_readsLine.desc).map (fun d => d.parameters.length) = some 0 := by decide +kernel
theorem hmyX10_readsLine : yX10_readsLine.cls ≠ "java/lang/invoke/MethodHandle" ∧ yX10_readsLine.cls ≠ "java/lang/invoke/VarHandle" := by decide +kernel
theorem wcyX10_readsLine : Cond.code yX10_readsLine cX10_readsLine 3 (some .boolean) ∈ zT := zT_7 (List.mem_of_getElem? (i := 93) rfl) rfl
theorem hpyX10_readsOtter : (parseMethodDescriptor yX10_readsOtter.desc).map (fun d => d.parameters.length) = some 0 := by decide +kernel
theorem hmyX10_readsOtter : yX10_readsOtter.cls ≠ "java/lang/invoke/MethodHandle" ∧ yX10_readsOtter.cls ≠ "java/lang/invoke/VarHandle" := by decide +kernel
theorem wcyX10_readsOtter : Cond.code yX10_readsOtter cX10_readsOtter 2 (some .boolean) ∈ zT := zT_7 (List.mem_of_getElem? (i := 47) rfl) rfl
theorem hpyX10_readsPerson : (parseMethodDescriptor yX10_readsPerson.desc).map (fun d => d.parameters.length) = some 0 := by decide +kernel
theorem hmyX10_readsPerson : yX10_readsPerson.cls ≠ "java/lang/invoke/MethodHandle" ∧ yX10_readsPerson.cls ≠ "java/lang/invoke/VarHandle" := by decide +kernel
theorem wcyX10_readsPerson : Cond.code yX10_readsPerson cX10_readsPerson 2 (some .boolean) ∈ zT := zT_7 (List.mem_of_getElem? (i := 43) rfl) rfl
theorem hpyX10_readsPlace : (parseMethodDescriptor yX10_readsPlace.desc).map (fun d => d.parameters.length) = some 0 := by decide +kernel
theorem hmyX10_readsPlace : yX10_readsPlace.cls ≠ "java/lang/invoke/MethodHandle" ∧ yX10_readsPlace.cls ≠ "java/lang/invoke/VarHandle" := by decide +kernel
theorem wcyX10_readsPlace : Cond.code yX10_readsPlace cX10_readsPlace 2 (some .boolean) ∈ zT := zT_6 (List.mem_of_getElem? (i := 190) rfl) rfl
theorem hpyX10_readsRain : (parseMethodDescriptor yX10_readsRain.desc).map (fun d => d.parameters.length) = some 0 := by decide +kernel
theorem hmyX10_readsRain : yX10_readsRain.cls ≠ "java/lang/invoke/MethodHandle" ∧ yX10_readsRain.cls ≠ "java/lang/invoke/VarHandle" := by decide +kernel
theorem wcyX10_readsRain : Cond.code yX10_readsRain cX10_readsRain 1 (some .boolean) ∈ zT := zT_7 (List.mem_of_getElem? (i := 55) rfl) rfl
theorem hpyX10_readsStream : (parseMethodDescriptor yX10_readsStream.desc).map (fun d => d.parameters.length) = some 0 := by decide +kernel
theorem hmyX10_readsStream : yX10_readsStream.cls ≠ "java/lang/invoke/MethodHandle" ∧ yX10_readsStream.cls ≠ "java/lang/invoke/VarHandle" := by decide +kernel
theorem wcyX10_readsStream : Cond.code yX10_readsStream cX10_readsStream 2 (some .boolean) ∈ zT := zT_7 (List.mem_of_getElem? (i := 31) rfl) rfl
theorem hpyX10_readsWets : (parseMethodDescriptor yX10_readsWets.desc).map (fun d => d.parameters.length) = some 0 := by decide +kernel
theorem hmyX10_readsWets : yX10_readsWets.cls ≠ "java/lang/invoke/MethodHandle" ∧ yX10_readsWets.cls ≠ "java/lang/invoke/VarHandle" := by decide +kernel
theorem wcyX10_readsWets : Cond.code yX10_readsWets cX10_readsWets 1 (some .boolean) ∈ zT := zT_7 (List.mem_of_getElem? (i := 59) rfl) rfl
theorem hpyX10_readsWrit : (parseMethodDescriptor yX10_readsWrit.desc).map (fun d => d.parameters.length) = some 0 := by decide +kernel
theorem hmyX10_readsWrit : yX10_readsWrit.cls ≠ "java/lang/invoke/MethodHandle" ∧ yX10_readsWrit.cls ≠ "java/lang/invoke/VarHandle" := by decide +kernel
theorem wcyX10_readsWrit : Cond.code yX10_readsWrit cX10_readsWrit 2 (some .boolean) ∈ zT := zT_7 (List.mem_of_getElem? (i := 51) rfl) rfl
theorem hpyX10_servesIn : (parseMethodDescriptor yX10_servesIn.desc).map (fun d => d.parameters.length) = some 2 := by decide +kernel
theorem hmyX10_servesIn : yX10_servesIn.cls ≠ "java/lang/invoke/MethodHandle" ∧ yX10_servesIn.cls ≠ "java/lang/invoke/VarHandle" := by decide +kernel
theorem wcyX10_servesIn : Cond.code yX10_servesIn cX10_servesIn 7 (some .int) ∈ zT := zT_8 (List.mem_of_getElem? (i := 47) rfl) rfl
theorem hpyX10_shares : (parseMethodDescriptor yX10_shares.desc).map (fun d => d.parameters.length) = some 4 := by decide +kernel
theorem hmyX10_shares : yX10_shares.cls ≠ "java/lang/invoke/MethodHandle" ∧ yX10_shares.cls ≠ "java/lang/invoke/VarHandle" := by decide +kernel
theorem wcyX10_shares : Cond.code yX10_shares cX10_shares 6 none ∈ zT := zT_8 (List.mem_of_getElem? (i := 59) rfl) rfl
theorem hpyX10_shifts : (parseMethodDescriptor yX10_shifts.desc).map (fun d => d.parameters.length) = some 2 := by decide +kernel
theorem hmyX10_shifts : yX10_shifts.cls ≠ "java/lang/invoke/MethodHandle" ∧ yX10_shifts.cls ≠ "java/lang/invoke/VarHandle" := by decide +kernel
theorem wcyX10_shifts : Cond.code yX10_shifts cX10_shifts 3 none ∈ zT := zT_7 (List.mem_of_getElem? (i := 82) rfl) rfl
theorem hpyX10_shiftsNames : (parseMethodDescriptor yX10_shiftsNames.desc).map (fun d => d.parameters.length) = some 2 := by decide +kernel
theorem hmyX10_shiftsNames : yX10_shiftsNames.cls ≠ "java/lang/invoke/MethodHandle" ∧ yX10_shiftsNames.cls ≠ "java/lang/invoke/VarHandle" := by decide +kernel
theorem wcyX10_shiftsNames : Cond.code yX10_shiftsNames cX10_shiftsNames 3 none ∈ zT := zT_7 (List.mem_of_getElem? (i := 85) rfl) rfl
theorem hpyX10_signAt : (parseMethodDescriptor yX10_signAt.desc).map (fun d => d.parameters.length) = some 1 := by decide +kernel
theorem hmyX10_signAt : yX10_signAt.cls ≠ "java/lang/invoke/MethodHandle" ∧ yX10_signAt.cls ≠ "java/lang/invoke/VarHandle" := by decide +kernel
theorem wcyX10_signAt : Cond.code yX10_signAt cX10_signAt 2 (some .int) ∈ zT := zT_6 (List.mem_of_getElem? (i := 179) rfl) rfl
theorem hpyX10_spreads : (parseMethodDescriptor yX10_spreads.desc).map (fun d => d.parameters.length) = some 2 := by decide +kernel
theorem hmyX10_spreads : yX10_spreads.cls ≠ "java/lang/invoke/MethodHandle" ∧ yX10_spreads.cls ≠ "java/lang/invoke/VarHandle" := by decide +kernel
theorem wcyX10_spreads : Cond.code yX10_spreads cX10_spreads 5 (some .int) ∈ zT := zT_8 (List.mem_of_getElem? (i := 83) rfl) rfl
theorem hpyX10_sums : (parseMethodDescriptor yX10_sums.desc).map (fun d => d.parameters.length) = some 1 := by decide +kernel
theorem hmyX10_sums : yX10_sums.cls ≠ "java/lang/invoke/MethodHandle" ∧ yX10_sums.cls ≠ "java/lang/invoke/VarHandle" := by decide +kernel
theorem wcyX10_sums : Cond.code yX10_sums cX10_sums 2 none ∈ zT := zT_7 (List.mem_of_getElem? (i := 215) rfl) rfl
theorem hpyX10_swims : (parseMethodDescriptor yX10_swims.desc).map (fun d => d.parameters.length) = some 2 := by decide +kernel
theorem hmyX10_swims : yX10_swims.cls ≠ "java/lang/invoke/MethodHandle" ∧ yX10_swims.cls ≠ "java/lang/invoke/VarHandle" := by decide +kernel
theorem wcyX10_swims : Cond.code yX10_swims cX10_swims 3 none ∈ zT := zT_7 (List.mem_of_getElem? (i := 171) rfl) rfl
theorem hpyX10_swimsAll : (parseMethodDescriptor yX10_swimsAll.desc).map (fun d => d.parameters.length) = some 2 := by decide +kernel
theorem hmyX10_swimsAll : yX10_swimsAll.cls ≠ "java/lang/invoke/MethodHandle" ∧ yX10_swimsAll.cls ≠ "java/lang/invoke/VarHandle" := by decide +kernel
theorem wcyX10_swimsAll : Cond.code yX10_swimsAll cX10_swimsAll 5 none ∈ zT := zT_8 (List.mem_of_getElem? (i := 35) rfl) rfl
theorem hpyX10_tests : (parseMethodDescriptor yX10_tests.desc).map (fun d => d.parameters.length) = some 1 := by decide +kernel
theorem hmyX10_tests : yX10_tests.cls ≠ "java/lang/invoke/MethodHandle" ∧ yX10_tests.cls ≠ "java/lang/invoke/VarHandle" := by decide +kernel
theorem wcyX10_tests : Cond.code yX10_tests cX10_tests 3 none ∈ zT := zT_7 (List.mem_of_getElem? (i := 219) rfl) rfl
theorem hpyX10_wetBy : (parseMethodDescriptor yX10_wetBy.desc).map (fun d => d.parameters.length) = some 2 := by decide +kernel
theorem hmyX10_wetBy : yX10_wetBy.cls ≠ "java/lang/invoke/MethodHandle" ∧ yX10_wetBy.cls ≠ "java/lang/invoke/VarHandle" := by decide +kernel
theorem wcyX10_wetBy : Cond.code yX10_wetBy cX10_wetBy 4 (some .int) ∈ zT := zT_7 (List.mem_of_getElem? (i := 203) rfl) rfl
theorem hpyX10_wets : (parseMethodDescriptor yX10_wets.desc).map (fun d => d.parameters.length) = some 0 := by decide +kernel
theorem hmyX10_wets : yX10_wets.cls ≠ "java/lang/invoke/MethodHandle" ∧ yX10_wets.cls ≠ "java/lang/invoke/VarHandle" := by decide +kernel
theorem wcyX10_wets : Cond.code yX10_wets cX10_wets 3 (some .int) ∈ zT := zT_7 (List.mem_of_getElem? (i := 167) rfl) rfl
theorem hpyX10_whoAt : (parseMethodDescriptor yX10_whoAt.desc).map (fun d => d.parameters.length) = some 1 := by decide +kernel
theorem hmyX10_whoAt : yX10_whoAt.cls ≠ "java/lang/invoke/MethodHandle" ∧ yX10_whoAt.cls ≠ "java/lang/invoke/VarHandle" := by decide +kernel
theorem wcyX10_whoAt : Cond.code yX10_whoAt cX10_whoAt 4 (some .int) ∈ zT := zT_7 (List.mem_of_getElem? (i := 109) rfl) rfl
theorem hpyX10_within : (parseMethodDescriptor yX10_within.desc).map (fun d => d.parameters.length) = some 3 := by decide +kernel
theorem hmyX10_within : yX10_within.cls ≠ "java/lang/invoke/MethodHandle" ∧ yX10_within.cls ≠ "java/lang/invoke/VarHandle" := by decide +kernel
theorem wcyX10_within : Cond.code yX10_within cX10_within 3 (some .boolean) ∈ zT := zT_7 (List.mem_of_getElem? (i := 19) rfl) rfl
theorem hpyX10_worked : (parseMethodDescriptor yX10_worked.desc).map (fun d => d.parameters.length) = some 1 := by decide +kernel
theorem hmyX10_worked : yX10_worked.cls ≠ "java/lang/invoke/MethodHandle" ∧ yX10_worked.cls ≠ "java/lang/invoke/VarHandle" := by decide +kernel
theorem wcyX10_worked : Cond.code yX10_worked cX10_worked 6 (some .int) ∈ zT := zT_7 (List.mem_of_getElem? (i := 207) rfl) rfl
theorem hpyX10_writNamed : (parseMethodDescriptor yX10_writNamed.desc).map (fun d => d.parameters.length) = some 1 := by decide +kernel
theorem hmyX10_writNamed : yX10_writNamed.cls ≠ "java/lang/invoke/MethodHandle" ∧ yX10_writNamed.cls ≠ "java/lang/invoke/VarHandle" := by decide +kernel
theorem wcyX10_writNamed : Cond.code yX10_writNamed cX10_writNamed 2 (some .int) ∈ zT := zT_7 (List.mem_of_getElem? (i := 4) rfl) rfl
theorem hpyX10_writsOf : (parseMethodDescriptor yX10_writsOf.desc).map (fun d => d.parameters.length) = some 1 := by decide +kernel
theorem hmyX10_writsOf : yX10_writsOf.cls ≠ "java/lang/invoke/MethodHandle" ∧ yX10_writsOf.cls ≠ "java/lang/invoke/VarHandle" := by decide +kernel
theorem wcyX10_writsOf : Cond.code yX10_writsOf cX10_writsOf 4 (some .int) ∈ zT := zT_7 (List.mem_of_getElem? (i := 129) rfl) rfl
theorem hpyJ6_bitCount_0f7a4 : (parseMethodDescriptor yJ6_bitCount_0f7a4.desc).map (fun d => d.parameters.length) = some 1 := by decide +kernel
theorem hmyJ6_bitCount_0f7a4 : yJ6_bitCount_0f7a4.cls ≠ "java/lang/invoke/MethodHandle" ∧ yJ6_bitCount_0f7a4.cls ≠ "java/lang/invoke/VarHandle" := by decide +kernel
theorem wcyJ6_bitCount_0f7a4 : Cond.code yJ6_bitCount_0f7a4 cJ6_bitCount_0f7a4 1 (some .int) ∈ zT := zT_4 (List.mem_of_getElem? (i := 2) rfl) rfl
theorem hpyJ9_floorMod_7cf53 : (parseMethodDescriptor yJ9_floorMod_7cf53.desc).map (fun d => d.parameters.length) = some 2 := by decide +kernel
theorem hmyJ9_floorMod_7cf53 : yJ9_floorMod_7cf53.cls ≠ "java/lang/invoke/MethodHandle" ∧ yJ9_floorMod_7cf53.cls ≠ "java/lang/invoke/VarHandle" := by decide +kernel
theorem wcyJ9_floorMod_7cf53 : Cond.code yJ9_floorMod_7cf53 cJ9_floorMod_7cf53 3 (some .int) ∈ zT := zT_3 (List.mem_of_getElem? (i := 225) rfl) rfl
theorem hpyJ9_max_7cf53 : (parseMethodDescriptor yJ9_max_7cf53.desc).map (fun d => d.parameters.length) = some 2 := by decide +kernel
theorem hmyJ9_max_7cf53 : yJ9_max_7cf53.cls ≠ "java/lang/invoke/MethodHandle" ∧ yJ9_max_7cf53.cls ≠ "java/lang/invoke/VarHandle" := by decide +kernel
theorem wcyJ9_max_7cf53 : Cond.code yJ9_max_7cf53 cJ9_max_7cf53 2 (some .int) ∈ zT := zT_4 (List.mem_of_getElem? (i := 68) rfl) rfl
theorem hpyJ9_min_7cf53 : (parseMethodDescriptor yJ9_min_7cf53.desc).map (fun d => d.parameters.length) = some 2 := by decide +kernel
theorem hmyJ9_min_7cf53 : yJ9_min_7cf53.cls ≠ "java/lang/invoke/MethodHandle" ∧ yJ9_min_7cf53.cls ≠ "java/lang/invoke/VarHandle" := by decide +kernel
theorem wcyJ9_min_7cf53 : Cond.code yJ9_min_7cf53 cJ9_min_7cf53 2 (some .int) ∈ zT := zT_4 (List.mem_of_getElem? (i := 16) rfl) rfl
theorem wMX9_75 : ∀ x ∈ wsV RX9 75 (zRn 7) yX7_begin [.code yX7_begin cX7_begin 3 none], x ∈ zT := (List.forall_mem_cons.mpr ⟨zT_2 (List.mem_of_getElem? (i := 94) rfl) rfl, (List.forall_mem_cons.mpr ⟨zT_2 (List.mem_of_getElem? (i := 95) rfl) rfl, (List.forall_mem_cons.mpr ⟨zT_2 (List.mem_of_getElem? (i := 96) rfl) rfl, (List.forall_mem_cons.mpr ⟨zT_1 (List.mem_of_getElem? (i := 7) rfl) rfl, (List.forall_mem_cons.mpr ⟨wcyX7_begin, (fun _ h => absurd h List.not_mem_nil)⟩)⟩)⟩)⟩)⟩)
theorem wMX9_79 : ∀ x ∈ wsV RX9 79 (zRn 8) yX8_append [.code yX8_append cX8_append 5 none], x ∈ zT := (List.forall_mem_cons.mpr ⟨zT_2 (List.mem_of_getElem? (i := 155) rfl) rfl, (List.forall_mem_cons.mpr ⟨zT_2 (List.mem_of_getElem? (i := 156) rfl) rfl, (List.forall_mem_cons.mpr ⟨zT_2 (List.mem_of_getElem? (i := 157) rfl) rfl, (List.forall_mem_cons.mpr ⟨zT_1 (List.mem_of_getElem? (i := 2) rfl) rfl, (List.forall_mem_cons.mpr ⟨wcyX8_append, (fun _ h => absurd h List.not_mem_nil)⟩)⟩)⟩)⟩)⟩)
theorem wMX9_87 : ∀ x ∈ wsV RX9 87 (zRn 0) yX0_read [.code yX0_read cX0_read 3 none], x ∈ zT := (List.forall_mem_cons.mpr ⟨zT_2 (List.mem_of_getElem? (i := 167) rfl) rfl, (List.forall_mem_cons.mpr ⟨zT_2 (List.mem_of_getElem? (i := 168) rfl) rfl, (List.forall_mem_cons.mpr ⟨zT_2 (List.mem_of_getElem? (i := 169) rfl) rfl, (List.forall_mem_cons.mpr ⟨zT_1 (List.mem_of_getElem? (i := 3) rfl) rfl, (List.forall_mem_cons.mpr ⟨wcyX0_read, (fun _ h => absurd h List.not_mem_nil)⟩)⟩)⟩)⟩)⟩)
theorem wMX9_91 : ∀ x ∈ wsV RX9 91 (zRn 8) yX8_finish [.code yX8_finish cX8_finish 1 (some .int)], x ∈ zT := (List.forall_mem_cons.mpr ⟨zT_3 (List.mem_of_getElem? (i := 138) rfl) rfl, (List.forall_mem_cons.mpr ⟨zT_3 (List.mem_of_getElem? (i := 139) rfl) rfl, (List.forall_mem_cons.mpr ⟨zT_3 (List.mem_of_getElem? (i := 140) rfl) rfl, (List.forall_mem_cons.mpr ⟨zT_1 (List.mem_of_getElem? (i := 2) rfl) rfl, (List.forall_mem_cons.mpr ⟨wcyX8_finish, (fun _ h => absurd h List.not_mem_nil)⟩)⟩)⟩)⟩)⟩)
theorem wMX9_95 : ∀ x ∈ wsV RX9 95 (zRn 9) yX9_startAnew [.code yX9_startAnew cX9_startAnew 2 none], x ∈ zT := (List.forall_mem_cons.mpr ⟨zT_3 (List.mem_of_getElem? (i := 142) rfl) rfl, (List.forall_mem_cons.mpr ⟨zT_3 (List.mem_of_getElem? (i := 144) rfl) rfl, (List.forall_mem_cons.mpr ⟨zT_s (List.mem_of_getElem? (i := 21) rfl) rfl, (List.forall_mem_cons.mpr ⟨zT_1 (List.mem_of_getElem? (i := 1) rfl) rfl, (List.forall_mem_cons.mpr ⟨wcyX9_startAnew, (fun _ h => absurd h List.not_mem_nil)⟩)⟩)⟩)⟩)⟩)
theorem wMX9_106 : ∀ x ∈ wsV RX9 106 (zRn 9) yX9_forgetPast [.code yX9_forgetPast cX9_forgetPast 1 none], x ∈ zT := (List.forall_mem_cons.mpr ⟨zT_3 (List.mem_of_getElem? (i := 146) rfl) rfl, (List.forall_mem_cons.mpr ⟨zT_3 (List.mem_of_getElem? (i := 148) rfl) rfl, (List.forall_mem_cons.mpr ⟨zT_s (List.mem_of_getElem? (i := 22) rfl) rfl, (List.forall_mem_cons.mpr ⟨zT_1 (List.mem_of_getElem? (i := 1) rfl) rfl, (List.forall_mem_cons.mpr ⟨wcyX9_forgetPast, (fun _ h => absurd h List.not_mem_nil)⟩)⟩)⟩)⟩)⟩)
theorem wMX9_109 : ∀ x ∈ wsV RX9 109 (zRn 4) yX4_forget [.code yX4_forget cX4_forget 1 none], x ∈ zT := (List.forall_mem_cons.mpr ⟨zT_3 (List.mem_of_getElem? (i := 150) rfl) rfl, (List.forall_mem_cons.mpr ⟨zT_3 (List.mem_of_getElem? (i := 151) rfl) rfl, (List.forall_mem_cons.mpr ⟨zT_3 (List.mem_of_getElem? (i := 152) rfl) rfl, (List.forall_mem_cons.mpr ⟨zT_1 (List.mem_of_getElem? (i := 9) rfl) rfl, (List.forall_mem_cons.mpr ⟨wcyX4_forget, (fun _ h => absurd h List.not_mem_nil)⟩)⟩)⟩)⟩)⟩)
theorem wMX9_112 : ∀ x ∈ wsV RX9 112 (zRn 6) yX6_read [.code yX6_read cX6_read 4 none], x ∈ zT := (List.forall_mem_cons.mpr ⟨zT_3 (List.mem_of_getElem? (i := 158) rfl) rfl, (List.forall_mem_cons.mpr ⟨zT_3 (List.mem_of_getElem? (i := 159) rfl) rfl, (List.forall_mem_cons.mpr ⟨zT_3 (List.mem_of_getElem? (i := 160) rfl) rfl, (List.forall_mem_cons.mpr ⟨zT_1 (List.mem_of_getElem? (i := 6) rfl) rfl, (List.forall_mem_cons.mpr ⟨wcyX6_read, (fun _ h => absurd h List.not_mem_nil)⟩)⟩)⟩)⟩)⟩)
theorem wMX9_131 : ∀ x ∈ wsV RX9 131 (zRn 9) yX9_isPlace [.code yX9_isPlace cX9_isPlace 2 (some .boolean)], x ∈ zT := (List.forall_mem_cons.mpr ⟨zT_3 (List.mem_of_getElem? (i := 184) rfl) rfl, (List.forall_mem_cons.mpr ⟨zT_3 (List.mem_of_getElem? (i := 186) rfl) rfl, (List.forall_mem_cons.mpr ⟨zT_s (List.mem_of_getElem? (i := 24) rfl) rfl, (List.forall_mem_cons.mpr ⟨zT_1 (List.mem_of_getElem? (i := 1) rfl) rfl, (List.forall_mem_cons.mpr ⟨wcyX9_isPlace, (fun _ h => absurd h List.not_mem_nil)⟩)⟩)⟩)⟩)⟩)
theorem wMX9_144 : ∀ x ∈ va_wsS RX9 144 yX9_bitsOf [.code yX9_bitsOf cX9_bitsOf 5 (some .int)], x ∈ zT := (List.forall_mem_cons.mpr ⟨zT_3 (List.mem_of_getElem? (i := 188) rfl) rfl, (List.forall_mem_cons.mpr ⟨zT_3 (List.mem_of_getElem? (i := 189) rfl) rfl, (List.forall_mem_cons.mpr ⟨zT_1 (List.mem_of_getElem? (i := 1) rfl) rfl, (List.forall_mem_cons.mpr ⟨wcyX9_bitsOf, (fun _ h => absurd h List.not_mem_nil)⟩)⟩)⟩)⟩)
theorem wMX9_151 : ∀ x ∈ wsV RX9 151 (zRn 9) yX9_isPerson [.code yX9_isPerson cX9_isPerson 2 (some .boolean)], x ∈ zT := (List.forall_mem_cons.mpr ⟨zT_3 (List.mem_of_getElem? (i := 195) rfl) rfl, (List.forall_mem_cons.mpr ⟨zT_3 (List.mem_of_getElem? (i := 197) rfl) rfl, (List.forall_mem_cons.mpr ⟨zT_s (List.mem_of_getElem? (i := 25) rfl) rfl, (List.forall_mem_cons.mpr ⟨zT_1 (List.mem_of_getElem? (i := 1) rfl) rfl, (List.forall_mem_cons.mpr ⟨wcyX9_isPerson, (fun _ h => absurd h List.not_mem_nil)⟩)⟩)⟩)⟩)⟩)
theorem wMX9_157 : ∀ x ∈ wsV RX9 157 (zRn 9) yX9_isOtter [.code yX9_isOtter cX9_isOtter 2 (some .boolean)], x ∈ zT := (List.forall_mem_cons.mpr ⟨zT_3 (List.mem_of_getElem? (i := 203) rfl) rfl, (List.forall_mem_cons.mpr ⟨zT_3 (List.mem_of_getElem? (i := 205) rfl) rfl, (List.forall_mem_cons.mpr ⟨zT_s (List.mem_of_getElem? (i := 26) rfl) rfl, (List.forall_mem_cons.mpr ⟨zT_1 (List.mem_of_getElem? (i := 1) rfl) rfl, (List.forall_mem_cons.mpr ⟨wcyX9_isOtter, (fun _ h => absurd h List.not_mem_nil)⟩)⟩)⟩)⟩)⟩)
theorem wMX9_169 : ∀ x ∈ wsV RX9 169 (zRn 9) yX9_isWrit [.code yX9_isWrit cX9_isWrit 2 (some .boolean)], x ∈ zT := (List.forall_mem_cons.mpr ⟨zT_3 (List.mem_of_getElem? (i := 211) rfl) rfl, (List.forall_mem_cons.mpr ⟨zT_3 (List.mem_of_getElem? (i := 213) rfl) rfl, (List.forall_mem_cons.mpr ⟨zT_s (List.mem_of_getElem? (i := 27) rfl) rfl, (List.forall_mem_cons.mpr ⟨zT_1 (List.mem_of_getElem? (i := 1) rfl) rfl, (List.forall_mem_cons.mpr ⟨wcyX9_isWrit, (fun _ h => absurd h List.not_mem_nil)⟩)⟩)⟩)⟩)⟩)
theorem wMX9_184 : ∀ x ∈ wsV RX9 184 (zRn 0) yX0_rainOf [.code yX0_rainOf cX0_rainOf 2 (some .int)], x ∈ zT := (List.forall_mem_cons.mpr ⟨zT_3 (List.mem_of_getElem? (i := 219) rfl) rfl, (List.forall_mem_cons.mpr ⟨zT_3 (List.mem_of_getElem? (i := 220) rfl) rfl, (List.forall_mem_cons.mpr ⟨zT_3 (List.mem_of_getElem? (i := 221) rfl) rfl, (List.forall_mem_cons.mpr ⟨zT_1 (List.mem_of_getElem? (i := 3) rfl) rfl, (List.forall_mem_cons.mpr ⟨wcyX0_rainOf, (fun _ h => absurd h List.not_mem_nil)⟩)⟩)⟩)⟩)⟩)
theorem wMX9_188 : ∀ x ∈ wsV RX9 188 (zRn 7) yX7_wetBits [.code yX7_wetBits cX7_wetBits 4 (some .int)], x ∈ zT := (List.forall_mem_cons.mpr ⟨zT_3 (List.mem_of_getElem? (i := 226) rfl) rfl, (List.forall_mem_cons.mpr ⟨zT_3 (List.mem_of_getElem? (i := 227) rfl) rfl, (List.forall_mem_cons.mpr ⟨zT_3 (List.mem_of_getElem? (i := 228) rfl) rfl, (List.forall_mem_cons.mpr ⟨zT_1 (List.mem_of_getElem? (i := 7) rfl) rfl, (List.forall_mem_cons.mpr ⟨wcyX7_wetBits, (fun _ h => absurd h List.not_mem_nil)⟩)⟩)⟩)⟩)⟩)
theorem wMX9_195 : ∀ x ∈ wsV RX9 195 (zRn 7) yX7_mayTake [.code yX7_mayTake cX7_mayTake 4 (some .boolean)], x ∈ zT := (List.forall_mem_cons.mpr ⟨zT_3 (List.mem_of_getElem? (i := 234) rfl) rfl, (List.forall_mem_cons.mpr ⟨zT_3 (List.mem_of_getElem? (i := 235) rfl) rfl, (List.forall_mem_cons.mpr ⟨zT_3 (List.mem_of_getElem? (i := 236) rfl) rfl, (List.forall_mem_cons.mpr ⟨zT_1 (List.mem_of_getElem? (i := 7) rfl) rfl, (List.forall_mem_cons.mpr ⟨wcyX7_mayTake, (fun _ h => absurd h List.not_mem_nil)⟩)⟩)⟩)⟩)⟩)
theorem wMX9_199 : ∀ x ∈ wsV RX9 199 (zRn 9) yX9_keepPast [.code yX9_keepPast cX9_keepPast 1 none], x ∈ zT := (List.forall_mem_cons.mpr ⟨zT_4 (List.mem_of_getElem? (i := 6) rfl) rfl, (List.forall_mem_cons.mpr ⟨zT_4 (List.mem_of_getElem? (i := 8) rfl) rfl, (List.forall_mem_cons.mpr ⟨zT_s (List.mem_of_getElem? (i := 28) rfl) rfl, (List.forall_mem_cons.mpr ⟨zT_1 (List.mem_of_getElem? (i := 1) rfl) rfl, (List.forall_mem_cons.mpr ⟨wcyX9_keepPast, (fun _ h => absurd h List.not_mem_nil)⟩)⟩)⟩)⟩)⟩)
theorem wMX9_202 : ∀ x ∈ wsV RX9 202 (zRn 7) yX7_maySwim [.code yX7_maySwim cX7_maySwim 5 (some .boolean)], x ∈ zT := (List.forall_mem_cons.mpr ⟨zT_4 (List.mem_of_getElem? (i := 21) rfl) rfl, (List.forall_mem_cons.mpr ⟨zT_4 (List.mem_of_getElem? (i := 22) rfl) rfl, (List.forall_mem_cons.mpr ⟨zT_4 (List.mem_of_getElem? (i := 23) rfl) rfl, (List.forall_mem_cons.mpr ⟨zT_1 (List.mem_of_getElem? (i := 7) rfl) rfl, (List.forall_mem_cons.mpr ⟨wcyX7_maySwim, (fun _ h => absurd h List.not_mem_nil)⟩)⟩)⟩)⟩)⟩)
theorem wMX9_205 : ∀ x ∈ wsV RX9 205 (zRn 7) yX7_doSwim [.code yX7_doSwim cX7_doSwim 3 none], x ∈ zT := (List.forall_mem_cons.mpr ⟨zT_4 (List.mem_of_getElem? (i := 26) rfl) rfl, (List.forall_mem_cons.mpr ⟨zT_4 (List.mem_of_getElem? (i := 27) rfl) rfl, (List.forall_mem_cons.mpr ⟨zT_4 (List.mem_of_getElem? (i := 28) rfl) rfl, (List.forall_mem_cons.mpr ⟨zT_1 (List.mem_of_getElem? (i := 7) rfl) rfl, (List.forall_mem_cons.mpr ⟨wcyX7_doSwim, (fun _ h => absurd h List.not_mem_nil)⟩)⟩)⟩)⟩)⟩)
theorem wMX9_209 : ∀ x ∈ wsV RX9 209 (zRn 7) yX7_mayServe [.code yX7_mayServe cX7_mayServe 5 (some .boolean)], x ∈ zT := (List.forall_mem_cons.mpr ⟨zT_4 (List.mem_of_getElem? (i := 34) rfl) rfl, (List.forall_mem_cons.mpr ⟨zT_4 (List.mem_of_getElem? (i := 35) rfl) rfl, (List.forall_mem_cons.mpr ⟨zT_4 (List.mem_of_getElem? (i := 36) rfl) rfl, (List.forall_mem_cons.mpr ⟨zT_1 (List.mem_of_getElem? (i := 7) rfl) rfl, (List.forall_mem_cons.mpr ⟨wcyX7_mayServe, (fun _ h => absurd h List.not_mem_nil)⟩)⟩)⟩)⟩)⟩)
theorem wMX9_213 : ∀ x ∈ wsV RX9 213 (zRn 7) yX7_nextDay [.code yX7_nextDay cX7_nextDay 4 none], x ∈ zT := (List.forall_mem_cons.mpr ⟨zT_4 (List.mem_of_getElem? (i := 45) rfl) rfl, (List.forall_mem_cons.mpr ⟨zT_4 (List.mem_of_getElem? (i := 46) rfl) rfl, (List.forall_mem_cons.mpr ⟨zT_4 (List.mem_of_getElem? (i := 47) rfl) rfl, (List.forall_mem_cons.mpr ⟨zT_1 (List.mem_of_getElem? (i := 7) rfl) rfl, (List.forall_mem_cons.mpr ⟨wcyX7_nextDay, (fun _ h => absurd h List.not_mem_nil)⟩)⟩)⟩)⟩)⟩)
theorem wMX9_219 : ∀ x ∈ wsV RX9 219 (zRn 7) yX7_copy [.code yX7_copy cX7_copy 2 none], x ∈ zT := (List.forall_mem_cons.mpr ⟨zT_4 (List.mem_of_getElem? (i := 10) rfl) rfl, (List.forall_mem_cons.mpr ⟨zT_4 (List.mem_of_getElem? (i := 11) rfl) rfl, (List.forall_mem_cons.mpr ⟨zT_4 (List.mem_of_getElem? (i := 12) rfl) rfl, (List.forall_mem_cons.mpr ⟨zT_1 (List.mem_of_getElem? (i := 7) rfl) rfl, (List.forall_mem_cons.mpr ⟨wcyX7_copy, (fun _ h => absurd h List.not_mem_nil)⟩)⟩)⟩)⟩)⟩)
theorem wMX9_223 : ∀ x ∈ va_wsS RX9 223 yJ9_min_7cf53 [.code yJ9_min_7cf53 cJ9_min_7cf53 2 (some .int)], x ∈ zT := (List.forall_mem_cons.mpr ⟨zT_4 (List.mem_of_getElem? (i := 14) rfl) rfl, (List.forall_mem_cons.mpr ⟨zT_4 (List.mem_of_getElem? (i := 15) rfl) rfl, (List.forall_mem_cons.mpr ⟨zT_1 (List.mem_of_getElem? (i := 14) rfl) rfl, (List.forall_mem_cons.mpr ⟨wcyJ9_min_7cf53, (fun _ h => absurd h List.not_mem_nil)⟩)⟩)⟩)⟩)
theorem wMX9_229 : ∀ x ∈ va_wsS RX9 229 yX9_within [.code yX9_within cX9_within 3 (some .boolean)], x ∈ zT := (List.forall_mem_cons.mpr ⟨zT_4 (List.mem_of_getElem? (i := 81) rfl) rfl, (List.forall_mem_cons.mpr ⟨zT_2 (List.mem_of_getElem? (i := 161) rfl) rfl, (List.forall_mem_cons.mpr ⟨zT_1 (List.mem_of_getElem? (i := 1) rfl) rfl, (List.forall_mem_cons.mpr ⟨wcyX9_within, (fun _ h => absurd h List.not_mem_nil)⟩)⟩)⟩)⟩)
theorem wMX9_233 : ∀ x ∈ wsV RX9 233 (zRn 2) yX2_lay [.code yX2_lay cX2_lay 4 none], x ∈ zT := (List.forall_mem_cons.mpr ⟨zT_4 (List.mem_of_getElem? (i := 82) rfl) rfl, (List.forall_mem_cons.mpr ⟨zT_4 (List.mem_of_getElem? (i := 83) rfl) rfl, (List.forall_mem_cons.mpr ⟨zT_4 (List.mem_of_getElem? (i := 84) rfl) rfl, (List.forall_mem_cons.mpr ⟨zT_1 (List.mem_of_getElem? (i := 10) rfl) rfl, (List.forall_mem_cons.mpr ⟨wcyX2_lay, (fun _ h => absurd h List.not_mem_nil)⟩)⟩)⟩)⟩)⟩)
theorem wMX9_241 : ∀ x ∈ wsV RX9 241 (zRn 6) yX6_copy [.code yX6_copy cX6_copy 2 none], x ∈ zT := (List.forall_mem_cons.mpr ⟨zT_4 (List.mem_of_getElem? (i := 96) rfl) rfl, (List.forall_mem_cons.mpr ⟨zT_4 (List.mem_of_getElem? (i := 88) rfl) rfl, (List.forall_mem_cons.mpr ⟨zT_4 (List.mem_of_getElem? (i := 89) rfl) rfl, (List.forall_mem_cons.mpr ⟨zT_1 (List.mem_of_getElem? (i := 6) rfl) rfl, (List.forall_mem_cons.mpr ⟨wcyX6_copy, (fun _ h => absurd h List.not_mem_nil)⟩)⟩)⟩)⟩)⟩)
theorem wMX9_245 : ∀ x ∈ wsV RX9 245 (zRn 5) yX5_copy [.code yX5_copy cX5_copy 3 none], x ∈ zT := (List.forall_mem_cons.mpr ⟨zT_4 (List.mem_of_getElem? (i := 97) rfl) rfl, (List.forall_mem_cons.mpr ⟨zT_4 (List.mem_of_getElem? (i := 93) rfl) rfl, (List.forall_mem_cons.mpr ⟨zT_4 (List.mem_of_getElem? (i := 94) rfl) rfl, (List.forall_mem_cons.mpr ⟨zT_1 (List.mem_of_getElem? (i := 8) rfl) rfl, (List.forall_mem_cons.mpr ⟨wcyX5_copy, (fun _ h => absurd h List.not_mem_nil)⟩)⟩)⟩)⟩)⟩)
theorem wMX9_257 : ∀ x ∈ wsV RX9 257 (zRn 7) yX7_doLine [.code yX7_doLine cX7_doLine 5 (some .boolean)], x ∈ zT := (List.forall_mem_cons.mpr ⟨zT_4 (List.mem_of_getElem? (i := 102) rfl) rfl, (List.forall_mem_cons.mpr ⟨zT_4 (List.mem_of_getElem? (i := 103) rfl) rfl, (List.forall_mem_cons.mpr ⟨zT_4 (List.mem_of_getElem? (i := 104) rfl) rfl, (List.forall_mem_cons.mpr ⟨zT_1 (List.mem_of_getElem? (i := 7) rfl) rfl, (List.forall_mem_cons.mpr ⟨wcyX7_doLine, (fun _ h => absurd h List.not_mem_nil)⟩)⟩)⟩)⟩)⟩)
theorem wMX9_261 : ∀ x ∈ wsV RX9 261 (zRn 4) yX4_foretell [.code yX4_foretell cX4_foretell 5 none], x ∈ zT := (List.forall_mem_cons.mpr ⟨zT_4 (List.mem_of_getElem? (i := 115) rfl) rfl, (List.forall_mem_cons.mpr ⟨zT_4 (List.mem_of_getElem? (i := 116) rfl) rfl, (List.forall_mem_cons.mpr ⟨zT_4 (List.mem_of_getElem? (i := 117) rfl) rfl, (List.forall_mem_cons.mpr ⟨zT_1 (List.mem_of_getElem? (i := 9) rfl) rfl, (List.forall_mem_cons.mpr ⟨wcyX4_foretell, (fun _ h => absurd h List.not_mem_nil)⟩)⟩)⟩)⟩)⟩)
theorem wMX9_265 : ∀ x ∈ wsV RX9 265 (zRn 4) yX4_waterOn [.code yX4_waterOn cX4_waterOn 3 (some .int)], x ∈ zT := (List.forall_mem_cons.mpr ⟨zT_4 (List.mem_of_getElem? (i := 123) rfl) rfl, (List.forall_mem_cons.mpr ⟨zT_4 (List.mem_of_getElem? (i := 124) rfl) rfl, (List.forall_mem_cons.mpr ⟨zT_4 (List.mem_of_getElem? (i := 125) rfl) rfl, (List.forall_mem_cons.mpr ⟨zT_1 (List.mem_of_getElem? (i := 9) rfl) rfl, (List.forall_mem_cons.mpr ⟨wcyX4_waterOn, (fun _ h => absurd h List.not_mem_nil)⟩)⟩)⟩)⟩)⟩)
theorem wMX9_268 : ∀ x ∈ wsV RX9 268 (zRn 4) yX4_placeOn [.code yX4_placeOn cX4_placeOn 3 (some .int)], x ∈ zT := (List.forall_mem_cons.mpr ⟨zT_4 (List.mem_of_getElem? (i := 131) rfl) rfl, (List.forall_mem_cons.mpr ⟨zT_4 (List.mem_of_getElem? (i := 132) rfl) rfl, (List.forall_mem_cons.mpr ⟨zT_4 (List.mem_of_getElem? (i := 133) rfl) rfl, (List.forall_mem_cons.mpr ⟨zT_1 (List.mem_of_getElem? (i := 9) rfl) rfl, (List.forall_mem_cons.mpr ⟨wcyX4_placeOn, (fun _ h => absurd h List.not_mem_nil)⟩)⟩)⟩)⟩)⟩)
theorem wMX9_271 : ∀ x ∈ wsV RX9 271 (zRn 9) yX9_firstDay [.code yX9_firstDay cX9_firstDay 4 (some .int)], x ∈ zT := (List.forall_mem_cons.mpr ⟨zT_4 (List.mem_of_getElem? (i := 139) rfl) rfl, (List.forall_mem_cons.mpr ⟨zT_4 (List.mem_of_getElem? (i := 141) rfl) rfl, (List.forall_mem_cons.mpr ⟨zT_s (List.mem_of_getElem? (i := 30) rfl) rfl, (List.forall_mem_cons.mpr ⟨zT_1 (List.mem_of_getElem? (i := 1) rfl) rfl, (List.forall_mem_cons.mpr ⟨wcyX9_firstDay, (fun _ h => absurd h List.not_mem_nil)⟩)⟩)⟩)⟩)⟩)
theorem wMX9_274 : ∀ x ∈ wsV RX9 274 (zRn 0) yX0_allPlaces [.code yX0_allPlaces cX0_allPlaces 1 (some .int)], x ∈ zT := (List.forall_mem_cons.mpr ⟨zT_4 (List.mem_of_getElem? (i := 155) rfl) rfl, (List.forall_mem_cons.mpr ⟨zT_4 (List.mem_of_getElem? (i := 156) rfl) rfl, (List.forall_mem_cons.mpr ⟨zT_4 (List.mem_of_getElem? (i := 157) rfl) rfl, (List.forall_mem_cons.mpr ⟨zT_1 (List.mem_of_getElem? (i := 3) rfl) rfl, (List.forall_mem_cons.mpr ⟨wcyX0_allPlaces, (fun _ h => absurd h List.not_mem_nil)⟩)⟩)⟩)⟩)⟩)
theorem wMX9_277 : ∀ x ∈ wsV RX9 277 (zRn 4) yX4_wetOn [.code yX4_wetOn cX4_wetOn 2 (some .int)], x ∈ zT := (List.forall_mem_cons.mpr ⟨zT_4 (List.mem_of_getElem? (i := 143) rfl) rfl, (List.forall_mem_cons.mpr ⟨zT_4 (List.mem_of_getElem? (i := 144) rfl) rfl, (List.forall_mem_cons.mpr ⟨zT_4 (List.mem_of_getElem? (i := 145) rfl) rfl, (List.forall_mem_cons.mpr ⟨zT_1 (List.mem_of_getElem? (i := 9) rfl) rfl, (List.forall_mem_cons.mpr ⟨wcyX4_wetOn, (fun _ h => absurd h List.not_mem_nil)⟩)⟩)⟩)⟩)⟩)
theorem wMX9_280 : ∀ x ∈ wsV RX9 280 (zRn 9) yX9_isSafe [.code yX9_isSafe cX9_isSafe 5 (some .boolean)], x ∈ zT := (List.forall_mem_cons.mpr ⟨zT_4 (List.mem_of_getElem? (i := 167) rfl) rfl, (List.forall_mem_cons.mpr ⟨zT_4 (List.mem_of_getElem? (i := 169) rfl) rfl, (List.forall_mem_cons.mpr ⟨zT_s (List.mem_of_getElem? (i := 31) rfl) rfl, (List.forall_mem_cons.mpr ⟨zT_1 (List.mem_of_getElem? (i := 1) rfl) rfl, (List.forall_mem_cons.mpr ⟨wcyX9_isSafe, (fun _ h => absurd h List.not_mem_nil)⟩)⟩)⟩)⟩)⟩)
theorem wMX9_283 : ∀ x ∈ va_wsS RX9 283 yX7_isServable [.code yX7_isServable cX7_isServable 2 (some .boolean)], x ∈ zT := (List.forall_mem_cons.mpr ⟨zT_4 (List.mem_of_getElem? (i := 171) rfl) rfl, (List.forall_mem_cons.mpr ⟨zT_4 (List.mem_of_getElem? (i := 39) rfl) rfl, (List.forall_mem_cons.mpr ⟨zT_1 (List.mem_of_getElem? (i := 7) rfl) rfl, (List.forall_mem_cons.mpr ⟨wcyX7_isServable, (fun _ h => absurd h List.not_mem_nil)⟩)⟩)⟩)⟩)
theorem wMX9_287 : ∀ x ∈ wsV RX9 287 (zRn 4) yX4_daysToPlace [.code yX4_daysToPlace cX4_daysToPlace 9 (some .int)], x ∈ zT := (List.forall_mem_cons.mpr ⟨zT_4 (List.mem_of_getElem? (i := 176) rfl) rfl, (List.forall_mem_cons.mpr ⟨zT_4 (List.mem_of_getElem? (i := 177) rfl) rfl, (List.forall_mem_cons.mpr ⟨zT_4 (List.mem_of_getElem? (i := 178) rfl) rfl, (List.forall_mem_cons.mpr ⟨zT_1 (List.mem_of_getElem? (i := 9) rfl) rfl, (List.forall_mem_cons.mpr ⟨wcyX4_daysToPlace, (fun _ h => absurd h List.not_mem_nil)⟩)⟩)⟩)⟩)⟩)
theorem wMX9_291 : ∀ x ∈ wsV RX9 291 (zRn 4) yX4_daysToServe [.code yX4_daysToServe cX4_daysToServe 12 (some .int)], x ∈ zT := (List.forall_mem_cons.mpr ⟨zT_4 (List.mem_of_getElem? (i := 191) rfl) rfl, (List.forall_mem_cons.mpr ⟨zT_4 (List.mem_of_getElem? (i := 192) rfl) rfl, (List.forall_mem_cons.mpr ⟨zT_4 (List.mem_of_getElem? (i := 193) rfl) rfl, (List.forall_mem_cons.mpr ⟨zT_1 (List.mem_of_getElem? (i := 9) rfl) rfl, (List.forall_mem_cons.mpr ⟨wcyX4_daysToServe, (fun _ h => absurd h List.not_mem_nil)⟩)⟩)⟩)⟩)⟩)
theorem wMX9_294 : ∀ x ∈ wsV RX9 294 (zRn 4) yX4_allot [.code yX4_allot cX4_allot 8 none], x ∈ zT := (List.forall_mem_cons.mpr ⟨zT_4 (List.mem_of_getElem? (i := 206) rfl) rfl, (List.forall_mem_cons.mpr ⟨zT_4 (List.mem_of_getElem? (i := 207) rfl) rfl, (List.forall_mem_cons.mpr ⟨zT_4 (List.mem_of_getElem? (i := 208) rfl) rfl, (List.forall_mem_cons.mpr ⟨zT_1 (List.mem_of_getElem? (i := 9) rfl) rfl, (List.forall_mem_cons.mpr ⟨wcyX4_allot, (fun _ h => absurd h List.not_mem_nil)⟩)⟩)⟩)⟩)⟩)
theorem wMX9_307 : ∀ x ∈ va_wsS RX9 307 yJ6_bitCount_0f7a4 [.code yJ6_bitCount_0f7a4 cJ6_bitCount_0f7a4 1 (some .int)], x ∈ zT := (List.forall_mem_cons.mpr ⟨zT_4 (List.mem_of_getElem? (i := 236) rfl) rfl, (List.forall_mem_cons.mpr ⟨zT_4 (List.mem_of_getElem? (i := 1) rfl) rfl, (List.forall_mem_cons.mpr ⟨zT_1 (List.mem_of_getElem? (i := 13) rfl) rfl, (List.forall_mem_cons.mpr ⟨wcyJ6_bitCount_0f7a4, (fun _ h => absurd h List.not_mem_nil)⟩)⟩)⟩)⟩)
theorem wMX9_312 : ∀ x ∈ wsV RX9 312 (zRn 0) yX0_allWrits [.code yX0_allWrits cX0_allWrits 1 (some .int)], x ∈ zT := (List.forall_mem_cons.mpr ⟨zT_5 (List.mem_of_getElem? (i := 1) rfl) rfl, (List.forall_mem_cons.mpr ⟨zT_5 (List.mem_of_getElem? (i := 2) rfl) rfl, (List.forall_mem_cons.mpr ⟨zT_5 (List.mem_of_getElem? (i := 3) rfl) rfl, (List.forall_mem_cons.mpr ⟨zT_1 (List.mem_of_getElem? (i := 3) rfl) rfl, (List.forall_mem_cons.mpr ⟨wcyX0_allWrits, (fun _ h => absurd h List.not_mem_nil)⟩)⟩)⟩)⟩)⟩)
theorem wMX9_315 : ∀ x ∈ wsV RX9 315 (zRn 0) yX0_spreadAll [.code yX0_spreadAll cX0_spreadAll 5 (some .int)], x ∈ zT := (List.forall_mem_cons.mpr ⟨zT_5 (List.mem_of_getElem? (i := 9) rfl) rfl, (List.forall_mem_cons.mpr ⟨zT_5 (List.mem_of_getElem? (i := 10) rfl) rfl, (List.forall_mem_cons.mpr ⟨zT_5 (List.mem_of_getElem? (i := 11) rfl) rfl, (List.forall_mem_cons.mpr ⟨zT_1 (List.mem_of_getElem? (i := 3) rfl) rfl, (List.forall_mem_cons.mpr ⟨wcyX0_spreadAll, (fun _ h => absurd h List.not_mem_nil)⟩)⟩)⟩)⟩)⟩)
theorem wMX9_318 : ∀ x ∈ wsV RX9 318 (zRn 9) yX9_poolOf [.code yX9_poolOf cX9_poolOf 4 (some .int)], x ∈ zT := (List.forall_mem_cons.mpr ⟨zT_5 (List.mem_of_getElem? (i := 18) rfl) rfl, (List.forall_mem_cons.mpr ⟨zT_5 (List.mem_of_getElem? (i := 20) rfl) rfl, (List.forall_mem_cons.mpr ⟨zT_s (List.mem_of_getElem? (i := 34) rfl) rfl, (List.forall_mem_cons.mpr ⟨zT_1 (List.mem_of_getElem? (i := 1) rfl) rfl, (List.forall_mem_cons.mpr ⟨wcyX9_poolOf, (fun _ h => absurd h List.not_mem_nil)⟩)⟩)⟩)⟩)⟩)
theorem wMX9_321 : ∀ x ∈ wsV RX9 321 (zRn 0) yX0_spread [.code yX0_spread cX0_spread 5 (some .int)], x ∈ zT := (List.forall_mem_cons.mpr ⟨zT_5 (List.mem_of_getElem? (i := 26) rfl) rfl, (List.forall_mem_cons.mpr ⟨zT_4 (List.mem_of_getElem? (i := 184) rfl) rfl, (List.forall_mem_cons.mpr ⟨zT_4 (List.mem_of_getElem? (i := 185) rfl) rfl, (List.forall_mem_cons.mpr ⟨zT_1 (List.mem_of_getElem? (i := 3) rfl) rfl, (List.forall_mem_cons.mpr ⟨wcyX0_spread, (fun _ h => absurd h List.not_mem_nil)⟩)⟩)⟩)⟩)⟩)
theorem wMX9_324 : ∀ x ∈ wsV RX9 324 (zRn 0) yX0_isLinked [.code yX0_isLinked cX0_isLinked 3 (some .boolean)], x ∈ zT := (List.forall_mem_cons.mpr ⟨zT_5 (List.mem_of_getElem? (i := 35) rfl) rfl, (List.forall_mem_cons.mpr ⟨zT_3 (List.mem_of_getElem? (i := 48) rfl) rfl, (List.forall_mem_cons.mpr ⟨zT_3 (List.mem_of_getElem? (i := 49) rfl) rfl, (List.forall_mem_cons.mpr ⟨zT_1 (List.mem_of_getElem? (i := 3) rfl) rfl, (List.forall_mem_cons.mpr ⟨wcyX0_isLinked, (fun _ h => absurd h List.not_mem_nil)⟩)⟩)⟩)⟩)⟩)
theorem wMX9_327 : ∀ x ∈ wsV RX9 327 (zRn 9) yX9_isBridge [.code yX9_isBridge cX9_isBridge 4 (some .boolean)], x ∈ zT := (List.forall_mem_cons.mpr ⟨zT_5 (List.mem_of_getElem? (i := 36) rfl) rfl, (List.forall_mem_cons.mpr ⟨zT_5 (List.mem_of_getElem? (i := 38) rfl) rfl, (List.forall_mem_cons.mpr ⟨zT_s (List.mem_of_getElem? (i := 35) rfl) rfl, (List.forall_mem_cons.mpr ⟨zT_1 (List.mem_of_getElem? (i := 1) rfl) rfl, (List.forall_mem_cons.mpr ⟨wcyX9_isBridge, (fun _ h => absurd h List.not_mem_nil)⟩)⟩)⟩)⟩)⟩)
theorem wMX9_330 : ∀ x ∈ wsV RX9 330 (zRn 0) yX0_flipLink [.code yX0_flipLink cX0_flipLink 3 none], x ∈ zT := (List.forall_mem_cons.mpr ⟨zT_5 (List.mem_of_getElem? (i := 40) rfl) rfl, (List.forall_mem_cons.mpr ⟨zT_3 (List.mem_of_getElem? (i := 53) rfl) rfl, (List.forall_mem_cons.mpr ⟨zT_3 (List.mem_of_getElem? (i := 54) rfl) rfl, (List.forall_mem_cons.mpr ⟨zT_1 (List.mem_of_getElem? (i := 3) rfl) rfl, (List.forall_mem_cons.mpr ⟨wcyX0_flipLink, (fun _ h => absurd h List.not_mem_nil)⟩)⟩)⟩)⟩)⟩)
theorem wMX9_333 : ∀ x ∈ wsV RX9 333 (zRn 5) yX5_put [.code yX5_put cX5_put 4 (some .boolean)], x ∈ zT := (List.forall_mem_cons.mpr ⟨zT_5 (List.mem_of_getElem? (i := 45) rfl) rfl, (List.forall_mem_cons.mpr ⟨zT_5 (List.mem_of_getElem? (i := 46) rfl) rfl, (List.forall_mem_cons.mpr ⟨zT_5 (List.mem_of_getElem? (i := 47) rfl) rfl, (List.forall_mem_cons.mpr ⟨zT_1 (List.mem_of_getElem? (i := 8) rfl) rfl, (List.forall_mem_cons.mpr ⟨wcyX5_put, (fun _ h => absurd h List.not_mem_nil)⟩)⟩)⟩)⟩)⟩)
theorem wMX9_337 : ∀ x ∈ wsV RX9 337 (zRn 9) yX9_isAsSeen [.code yX9_isAsSeen cX9_isAsSeen 5 (some .boolean)], x ∈ zT := (List.forall_mem_cons.mpr ⟨zT_5 (List.mem_of_getElem? (i := 53) rfl) rfl, (List.forall_mem_cons.mpr ⟨zT_5 (List.mem_of_getElem? (i := 55) rfl) rfl, (List.forall_mem_cons.mpr ⟨zT_s (List.mem_of_getElem? (i := 36) rfl) rfl, (List.forall_mem_cons.mpr ⟨zT_1 (List.mem_of_getElem? (i := 1) rfl) rfl, (List.forall_mem_cons.mpr ⟨wcyX9_isAsSeen, (fun _ h => absurd h List.not_mem_nil)⟩)⟩)⟩)⟩)⟩)
theorem wMX9_343 : ∀ x ∈ wsV RX9 343 (zRn 0) yX0_waterBehind [.code yX0_waterBehind cX0_waterBehind 6 (some .int)], x ∈ zT := (List.forall_mem_cons.mpr ⟨zT_5 (List.mem_of_getElem? (i := 57) rfl) rfl, (List.forall_mem_cons.mpr ⟨zT_4 (List.mem_of_getElem? (i := 51) rfl) rfl, (List.forall_mem_cons.mpr ⟨zT_4 (List.mem_of_getElem? (i := 52) rfl) rfl, (List.forall_mem_cons.mpr ⟨zT_1 (List.mem_of_getElem? (i := 3) rfl) rfl, (List.forall_mem_cons.mpr ⟨wcyX0_waterBehind, (fun _ h => absurd h List.not_mem_nil)⟩)⟩)⟩)⟩)⟩)
theorem wMX9_352 : ∀ x ∈ wsV RX9 352 (zRn 9) yX9_rains [.code yX9_rains cX9_rains 3 (some .int)], x ∈ zT := (List.forall_mem_cons.mpr ⟨zT_5 (List.mem_of_getElem? (i := 62) rfl) rfl, (List.forall_mem_cons.mpr ⟨zT_5 (List.mem_of_getElem? (i := 50) rfl) rfl, (List.forall_mem_cons.mpr ⟨zT_5 (List.mem_of_getElem? (i := 51) rfl) rfl, (List.forall_mem_cons.mpr ⟨zT_1 (List.mem_of_getElem? (i := 1) rfl) rfl, (List.forall_mem_cons.mpr ⟨wcyX9_rains, (fun _ h => absurd h List.not_mem_nil)⟩)⟩)⟩)⟩)⟩)
theorem wMX9_355 : ∀ x ∈ wsV RX9 355 (zRn 9) yX9_fillTomorrow [.code yX9_fillTomorrow cX9_fillTomorrow 3 none], x ∈ zT := (List.forall_mem_cons.mpr ⟨zT_5 (List.mem_of_getElem? (i := 63) rfl) rfl, (List.forall_mem_cons.mpr ⟨zT_5 (List.mem_of_getElem? (i := 65) rfl) rfl, (List.forall_mem_cons.mpr ⟨zT_s (List.mem_of_getElem? (i := 37) rfl) rfl, (List.forall_mem_cons.mpr ⟨zT_1 (List.mem_of_getElem? (i := 1) rfl) rfl, (List.forall_mem_cons.mpr ⟨wcyX9_fillTomorrow, (fun _ h => absurd h List.not_mem_nil)⟩)⟩)⟩)⟩)⟩)
theorem wMX9_359 : ∀ x ∈ wsV RX9 359 (zRn 9) yX9_rainsWithSoMuch [.code yX9_rainsWithSoMuch cX9_rainsWithSoMuch 5 (some .int)], x ∈ zT := (List.forall_mem_cons.mpr ⟨zT_5 (List.mem_of_getElem? (i := 67) rfl) rfl, (List.forall_mem_cons.mpr ⟨zT_5 (List.mem_of_getElem? (i := 69) rfl) rfl, (List.forall_mem_cons.mpr ⟨zT_s (List.mem_of_getElem? (i := 38) rfl) rfl, (List.forall_mem_cons.mpr ⟨zT_1 (List.mem_of_getElem? (i := 1) rfl) rfl, (List.forall_mem_cons.mpr ⟨wcyX9_rainsWithSoMuch, (fun _ h => absurd h List.not_mem_nil)⟩)⟩)⟩)⟩)⟩)
theorem wMX9_362 : ∀ x ∈ va_wsS RX9 362 yJ9_max_7cf53 [.code yJ9_max_7cf53 cJ9_max_7cf53 2 (some .int)], x ∈ zT := (List.forall_mem_cons.mpr ⟨zT_5 (List.mem_of_getElem? (i := 71) rfl) rfl, (List.forall_mem_cons.mpr ⟨zT_4 (List.mem_of_getElem? (i := 67) rfl) rfl, (List.forall_mem_cons.mpr ⟨zT_1 (List.mem_of_getElem? (i := 14) rfl) rfl, (List.forall_mem_cons.mpr ⟨wcyJ9_max_7cf53, (fun _ h => absurd h List.not_mem_nil)⟩)⟩)⟩)⟩)
theorem wMX9_365 : ∀ x ∈ va_wsS RX9 365 yX9_weighWet [.code yX9_weighWet cX9_weighWet 8 (some .int)], x ∈ zT := (List.forall_mem_cons.mpr ⟨zT_5 (List.mem_of_getElem? (i := 76) rfl) rfl, (List.forall_mem_cons.mpr ⟨zT_5 (List.mem_of_getElem? (i := 77) rfl) rfl, (List.forall_mem_cons.mpr ⟨zT_1 (List.mem_of_getElem? (i := 1) rfl) rfl, (List.forall_mem_cons.mpr ⟨wcyX9_weighWet, (fun _ h => absurd h List.not_mem_nil)⟩)⟩)⟩)⟩)
theorem wMX9_382 : ∀ x ∈ va_wsS RX9 382 yX9_pay [.code yX9_pay cX9_pay 5 (some .int)], x ∈ zT := (List.forall_mem_cons.mpr ⟨zT_5 (List.mem_of_getElem? (i := 175) rfl) rfl, (List.forall_mem_cons.mpr ⟨zT_5 (List.mem_of_getElem? (i := 176) rfl) rfl, (List.forall_mem_cons.mpr ⟨zT_1 (List.mem_of_getElem? (i := 1) rfl) rfl, (List.forall_mem_cons.mpr ⟨wcyX9_pay, (fun _ h => absurd h List.not_mem_nil)⟩)⟩)⟩)⟩)
theorem wMX9_390 : ∀ x ∈ wsV RX9 390 (zRn 9) yX9_doDrawn [.code yX9_doDrawn cX9_doDrawn 5 (some .boolean)], x ∈ zT := (List.forall_mem_cons.mpr ⟨zT_5 (List.mem_of_getElem? (i := 83) rfl) rfl, (List.forall_mem_cons.mpr ⟨zT_5 (List.mem_of_getElem? (i := 85) rfl) rfl, (List.forall_mem_cons.mpr ⟨zT_s (List.mem_of_getElem? (i := 39) rfl) rfl, (List.forall_mem_cons.mpr ⟨zT_1 (List.mem_of_getElem? (i := 1) rfl) rfl, (List.forall_mem_cons.mpr ⟨wcyX9_doDrawn, (fun _ h => absurd h List.not_mem_nil)⟩)⟩)⟩)⟩)⟩)
theorem wMX9_394 : ∀ x ∈ wsV RX9 394 (zRn 7) yX7_waterTogether [.code yX7_waterTogether cX7_waterTogether 4 (some .int)], x ∈ zT := (List.forall_mem_cons.mpr ⟨zT_5 (List.mem_of_getElem? (i := 95) rfl) rfl, (List.forall_mem_cons.mpr ⟨zT_5 (List.mem_of_getElem? (i := 96) rfl) rfl, (List.forall_mem_cons.mpr ⟨zT_5 (List.mem_of_getElem? (i := 97) rfl) rfl, (List.forall_mem_cons.mpr ⟨zT_1 (List.mem_of_getElem? (i := 7) rfl) rfl, (List.forall_mem_cons.mpr ⟨wcyX7_waterTogether, (fun _ h => absurd h List.not_mem_nil)⟩)⟩)⟩)⟩)⟩)
theorem wMX9_397 : ∀ x ∈ wsV RX9 397 (zRn 9) yX9_draw [.code yX9_draw cX9_draw 2 (some .int)], x ∈ zT := (List.forall_mem_cons.mpr ⟨zT_5 (List.mem_of_getElem? (i := 87) rfl) rfl, (List.forall_mem_cons.mpr ⟨zT_5 (List.mem_of_getElem? (i := 89) rfl) rfl, (List.forall_mem_cons.mpr ⟨zT_s (List.mem_of_getElem? (i := 40) rfl) rfl, (List.forall_mem_cons.mpr ⟨zT_1 (List.mem_of_getElem? (i := 1) rfl) rfl, (List.forall_mem_cons.mpr ⟨wcyX9_draw, (fun _ h => absurd h List.not_mem_nil)⟩)⟩)⟩)⟩)⟩)
theorem wMX0_64 : ∀ x ∈ wsV RX0 64 (zRn 0) yX0_clear [.code yX0_clear cX0_clear 1 none], x ∈ zT := (List.forall_mem_cons.mpr ⟨zT_2 (List.mem_of_getElem? (i := 171) rfl) rfl, (List.forall_mem_cons.mpr ⟨zT_2 (List.mem_of_getElem? (i := 173) rfl) rfl, (List.forall_mem_cons.mpr ⟨zT_s (List.mem_of_getElem? (i := 1) rfl) rfl, (List.forall_mem_cons.mpr ⟨zT_1 (List.mem_of_getElem? (i := 3) rfl) rfl, (List.forall_mem_cons.mpr ⟨wcyX0_clear, (fun _ h => absurd h List.not_mem_nil)⟩)⟩)⟩)⟩)⟩)
theorem wMX0_67 : ∀ x ∈ wsV RX0 67 (zRn 8) yX8_begin [.code yX8_begin cX8_begin 1 none], x ∈ zT := (List.forall_mem_cons.mpr ⟨zT_2 (List.mem_of_getElem? (i := 175) rfl) rfl, (List.forall_mem_cons.mpr ⟨zT_2 (List.mem_of_getElem? (i := 176) rfl) rfl, (List.forall_mem_cons.mpr ⟨zT_2 (List.mem_of_getElem? (i := 177) rfl) rfl, (List.forall_mem_cons.mpr ⟨zT_1 (List.mem_of_getElem? (i := 2) rfl) rfl, (List.forall_mem_cons.mpr ⟨wcyX8_begin, (fun _ h => absurd h List.not_mem_nil)⟩)⟩)⟩)⟩)⟩)
theorem wMX0_72 : ∀ x ∈ wsV RX0 72 (zRn 8) yX8_isFine [.code yX8_isFine cX8_isFine 1 (some .boolean)], x ∈ zT := (List.forall_mem_cons.mpr ⟨zT_2 (List.mem_of_getElem? (i := 195) rfl) rfl, (List.forall_mem_cons.mpr ⟨zT_2 (List.mem_of_getElem? (i := 196) rfl) rfl, (List.forall_mem_cons.mpr ⟨zT_2 (List.mem_of_getElem? (i := 197) rfl) rfl, (List.forall_mem_cons.mpr ⟨zT_1 (List.mem_of_getElem? (i := 2) rfl) rfl, (List.forall_mem_cons.mpr ⟨wcyX8_isFine, (fun _ h => absurd h List.not_mem_nil)⟩)⟩)⟩)⟩)⟩)
theorem wMX0_80 : ∀ x ∈ wsV RX0 80 (zRn 0) yX0_readStatement [.code yX0_readStatement cX0_readStatement 2 none], x ∈ zT := (List.forall_mem_cons.mpr ⟨zT_2 (List.mem_of_getElem? (i := 199) rfl) rfl, (List.forall_mem_cons.mpr ⟨zT_2 (List.mem_of_getElem? (i := 201) rfl) rfl, (List.forall_mem_cons.mpr ⟨zT_s (List.mem_of_getElem? (i := 4) rfl) rfl, (List.forall_mem_cons.mpr ⟨zT_1 (List.mem_of_getElem? (i := 3) rfl) rfl, (List.forall_mem_cons.mpr ⟨wcyX0_readStatement, (fun _ h => absurd h List.not_mem_nil)⟩)⟩)⟩)⟩)⟩)
theorem wMX0_96 : ∀ x ∈ wsV RX0 96 (zRn 8) yX8_atWord [.code yX8_atWord cX8_atWord 3 (some .boolean)], x ∈ zT := (List.forall_mem_cons.mpr ⟨zT_2 (List.mem_of_getElem? (i := 204) rfl) rfl, (List.forall_mem_cons.mpr ⟨zT_2 (List.mem_of_getElem? (i := 205) rfl) rfl, (List.forall_mem_cons.mpr ⟨zT_2 (List.mem_of_getElem? (i := 206) rfl) rfl, (List.forall_mem_cons.mpr ⟨zT_1 (List.mem_of_getElem? (i := 2) rfl) rfl, (List.forall_mem_cons.mpr ⟨wcyX8_atWord, (fun _ h => absurd h List.not_mem_nil)⟩)⟩)⟩)⟩)⟩)
theorem wMX0_100 : ∀ x ∈ wsV RX0 100 (zRn 0) yX0_readPlace [.code yX0_readPlace cX0_readPlace 6 none], x ∈ zT := (List.forall_mem_cons.mpr ⟨zT_2 (List.mem_of_getElem? (i := 208) rfl) rfl, (List.forall_mem_cons.mpr ⟨zT_2 (List.mem_of_getElem? (i := 210) rfl) rfl, (List.forall_mem_cons.mpr ⟨zT_s (List.mem_of_getElem? (i := 5) rfl) rfl, (List.forall_mem_cons.mpr ⟨zT_1 (List.mem_of_getElem? (i := 3) rfl) rfl, (List.forall_mem_cons.mpr ⟨wcyX0_readPlace, (fun _ h => absurd h List.not_mem_nil)⟩)⟩)⟩)⟩)⟩)
theorem wMX0_105 : ∀ x ∈ wsV RX0 105 (zRn 0) yX0_readStream [.code yX0_readStream cX0_readStream 5 none], x ∈ zT := (List.forall_mem_cons.mpr ⟨zT_3 (List.mem_of_getElem? (i := 37) rfl) rfl, (List.forall_mem_cons.mpr ⟨zT_3 (List.mem_of_getElem? (i := 39) rfl) rfl, (List.forall_mem_cons.mpr ⟨zT_s (List.mem_of_getElem? (i := 8) rfl) rfl, (List.forall_mem_cons.mpr ⟨zT_1 (List.mem_of_getElem? (i := 3) rfl) rfl, (List.forall_mem_cons.mpr ⟨wcyX0_readStream, (fun _ h => absurd h List.not_mem_nil)⟩)⟩)⟩)⟩)⟩)
theorem wMX0_110 : ∀ x ∈ wsV RX0 110 (zRn 0) yX0_readPerson [.code yX0_readPerson cX0_readPerson 7 none], x ∈ zT := (List.forall_mem_cons.mpr ⟨zT_3 (List.mem_of_getElem? (i := 57) rfl) rfl, (List.forall_mem_cons.mpr ⟨zT_3 (List.mem_of_getElem? (i := 59) rfl) rfl, (List.forall_mem_cons.mpr ⟨zT_s (List.mem_of_getElem? (i := 9) rfl) rfl, (List.forall_mem_cons.mpr ⟨zT_1 (List.mem_of_getElem? (i := 3) rfl) rfl, (List.forall_mem_cons.mpr ⟨wcyX0_readPerson, (fun _ h => absurd h List.not_mem_nil)⟩)⟩)⟩)⟩)⟩)
theorem wMX0_115 : ∀ x ∈ wsV RX0 115 (zRn 0) yX0_readOtter [.code yX0_readOtter cX0_readOtter 7 none], x ∈ zT := (List.forall_mem_cons.mpr ⟨zT_3 (List.mem_of_getElem? (i := 70) rfl) rfl, (List.forall_mem_cons.mpr ⟨zT_3 (List.mem_of_getElem? (i := 72) rfl) rfl, (List.forall_mem_cons.mpr ⟨zT_s (List.mem_of_getElem? (i := 10) rfl) rfl, (List.forall_mem_cons.mpr ⟨zT_1 (List.mem_of_getElem? (i := 3) rfl) rfl, (List.forall_mem_cons.mpr ⟨wcyX0_readOtter, (fun _ h => absurd h List.not_mem_nil)⟩)⟩)⟩)⟩)⟩)
theorem wMX0_120 : ∀ x ∈ wsV RX0 120 (zRn 0) yX0_readWrit [.code yX0_readWrit cX0_readWrit 7 none], x ∈ zT := (List.forall_mem_cons.mpr ⟨zT_3 (List.mem_of_getElem? (i := 76) rfl) rfl, (List.forall_mem_cons.mpr ⟨zT_3 (List.mem_of_getElem? (i := 78) rfl) rfl, (List.forall_mem_cons.mpr ⟨zT_s (List.mem_of_getElem? (i := 11) rfl) rfl, (List.forall_mem_cons.mpr ⟨zT_1 (List.mem_of_getElem? (i := 3) rfl) rfl, (List.forall_mem_cons.mpr ⟨wcyX0_readWrit, (fun _ h => absurd h List.not_mem_nil)⟩)⟩)⟩)⟩)⟩)
theorem wMX0_125 : ∀ x ∈ wsV RX0 125 (zRn 0) yX0_readRain [.code yX0_readRain cX0_readRain 3 none], x ∈ zT := (List.forall_mem_cons.mpr ⟨zT_3 (List.mem_of_getElem? (i := 83) rfl) rfl, (List.forall_mem_cons.mpr ⟨zT_3 (List.mem_of_getElem? (i := 85) rfl) rfl, (List.forall_mem_cons.mpr ⟨zT_s (List.mem_of_getElem? (i := 12) rfl) rfl, (List.forall_mem_cons.mpr ⟨zT_1 (List.mem_of_getElem? (i := 3) rfl) rfl, (List.forall_mem_cons.mpr ⟨wcyX0_readRain, (fun _ h => absurd h List.not_mem_nil)⟩)⟩)⟩)⟩)⟩)
theorem wMX0_130 : ∀ x ∈ wsV RX0 130 (zRn 0) yX0_readWets [.code yX0_readWets cX0_readWets 2 none], x ∈ zT := (List.forall_mem_cons.mpr ⟨zT_3 (List.mem_of_getElem? (i := 93) rfl) rfl, (List.forall_mem_cons.mpr ⟨zT_3 (List.mem_of_getElem? (i := 95) rfl) rfl, (List.forall_mem_cons.mpr ⟨zT_s (List.mem_of_getElem? (i := 14) rfl) rfl, (List.forall_mem_cons.mpr ⟨zT_1 (List.mem_of_getElem? (i := 3) rfl) rfl, (List.forall_mem_cons.mpr ⟨wcyX0_readWets, (fun _ h => absurd h List.not_mem_nil)⟩)⟩)⟩)⟩)⟩)
theorem wMX0_133 : ∀ x ∈ wsV RX0 133 (zRn 8) yX8_fail [.code yX8_fail cX8_fail 2 none], x ∈ zT := (List.forall_mem_cons.mpr ⟨zT_2 (List.mem_of_getElem? (i := 219) rfl) rfl, (List.forall_mem_cons.mpr ⟨zT_2 (List.mem_of_getElem? (i := 220) rfl) rfl, (List.forall_mem_cons.mpr ⟨zT_2 (List.mem_of_getElem? (i := 221) rfl) rfl, (List.forall_mem_cons.mpr ⟨zT_1 (List.mem_of_getElem? (i := 2) rfl) rfl, (List.forall_mem_cons.mpr ⟨wcyX8_fail, (fun _ h => absurd h List.not_mem_nil)⟩)⟩)⟩)⟩)⟩)
theorem wMX0_136 : ∀ x ∈ wsV RX0 136 (zRn 8) yX8_step [.code yX8_step cX8_step 1 none], x ∈ zT := (List.forall_mem_cons.mpr ⟨zT_2 (List.mem_of_getElem? (i := 227) rfl) rfl, (List.forall_mem_cons.mpr ⟨zT_2 (List.mem_of_getElem? (i := 180) rfl) rfl, (List.forall_mem_cons.mpr ⟨zT_2 (List.mem_of_getElem? (i := 181) rfl) rfl, (List.forall_mem_cons.mpr ⟨zT_1 (List.mem_of_getElem? (i := 2) rfl) rfl, (List.forall_mem_cons.mpr ⟨wcyX8_step, (fun _ h => absurd h List.not_mem_nil)⟩)⟩)⟩)⟩)⟩)
theorem wMX0_139 : ∀ x ∈ wsV RX0 139 (zRn 8) yX8_atName [.code yX8_atName cX8_atName 1 (some .boolean)], x ∈ zT := (List.forall_mem_cons.mpr ⟨zT_2 (List.mem_of_getElem? (i := 232) rfl) rfl, (List.forall_mem_cons.mpr ⟨zT_2 (List.mem_of_getElem? (i := 233) rfl) rfl, (List.forall_mem_cons.mpr ⟨zT_2 (List.mem_of_getElem? (i := 234) rfl) rfl, (List.forall_mem_cons.mpr ⟨zT_1 (List.mem_of_getElem? (i := 2) rfl) rfl, (List.forall_mem_cons.mpr ⟨wcyX8_atName, (fun _ h => absurd h List.not_mem_nil)⟩)⟩)⟩)⟩)⟩)
theorem wMX0_146 : ∀ x ∈ wsV RX0 146 (zRn 0) yX0_isTold [.code yX0_isTold cX0_isTold 3 (some .boolean)], x ∈ zT := (List.forall_mem_cons.mpr ⟨zT_3 (List.mem_of_getElem? (i := 2) rfl) rfl, (List.forall_mem_cons.mpr ⟨zT_3 (List.mem_of_getElem? (i := 4) rfl) rfl, (List.forall_mem_cons.mpr ⟨zT_s (List.mem_of_getElem? (i := 7) rfl) rfl, (List.forall_mem_cons.mpr ⟨zT_1 (List.mem_of_getElem? (i := 3) rfl) rfl, (List.forall_mem_cons.mpr ⟨wcyX0_isTold, (fun _ h => absurd h List.not_mem_nil)⟩)⟩)⟩)⟩)⟩)
theorem wMX0_149 : ∀ x ∈ wsV RX0 149 (zRn 3) yX3_find [.code yX3_find cX3_find 4 (some .int)], x ∈ zT := (List.forall_mem_cons.mpr ⟨zT_3 (List.mem_of_getElem? (i := 6) rfl) rfl, (List.forall_mem_cons.mpr ⟨zT_3 (List.mem_of_getElem? (i := 7) rfl) rfl, (List.forall_mem_cons.mpr ⟨zT_3 (List.mem_of_getElem? (i := 8) rfl) rfl, (List.forall_mem_cons.mpr ⟨zT_1 (List.mem_of_getElem? (i := 4) rfl) rfl, (List.forall_mem_cons.mpr ⟨wcyX3_find, (fun _ h => absurd h List.not_mem_nil)⟩)⟩)⟩)⟩)⟩)
theorem wMX0_153 : ∀ x ∈ wsV RX0 153 (zRn 3) yX3_isFull [.code yX3_isFull cX3_isFull 1 (some .boolean)], x ∈ zT := (List.forall_mem_cons.mpr ⟨zT_2 (List.mem_of_getElem? (i := 212) rfl) rfl, (List.forall_mem_cons.mpr ⟨zT_2 (List.mem_of_getElem? (i := 213) rfl) rfl, (List.forall_mem_cons.mpr ⟨zT_2 (List.mem_of_getElem? (i := 214) rfl) rfl, (List.forall_mem_cons.mpr ⟨zT_1 (List.mem_of_getElem? (i := 4) rfl) rfl, (List.forall_mem_cons.mpr ⟨wcyX3_isFull, (fun _ h => absurd h List.not_mem_nil)⟩)⟩)⟩)⟩)⟩)
theorem wMX0_156 : ∀ x ∈ va_wsS RX0 156 yX0_passFirst [.code yX0_passFirst cX0_passFirst 2 none], x ∈ zT := (List.forall_mem_cons.mpr ⟨zT_2 (List.mem_of_getElem? (i := 216) rfl) rfl, (List.forall_mem_cons.mpr ⟨zT_2 (List.mem_of_getElem? (i := 217) rfl) rfl, (List.forall_mem_cons.mpr ⟨zT_1 (List.mem_of_getElem? (i := 3) rfl) rfl, (List.forall_mem_cons.mpr ⟨wcyX0_passFirst, (fun _ h => absurd h List.not_mem_nil)⟩)⟩)⟩)⟩)
theorem wMX0_160 : ∀ x ∈ wsV RX0 160 (zRn 0) yX0_passNewName [.code yX0_passNewName cX0_passNewName 4 (some .long)], x ∈ zT := (List.forall_mem_cons.mpr ⟨zT_2 (List.mem_of_getElem? (i := 228) rfl) rfl, (List.forall_mem_cons.mpr ⟨zT_2 (List.mem_of_getElem? (i := 230) rfl) rfl, (List.forall_mem_cons.mpr ⟨zT_s (List.mem_of_getElem? (i := 6) rfl) rfl, (List.forall_mem_cons.mpr ⟨zT_1 (List.mem_of_getElem? (i := 3) rfl) rfl, (List.forall_mem_cons.mpr ⟨wcyX0_passNewName, (fun _ h => absurd h List.not_mem_nil)⟩)⟩)⟩)⟩)⟩)
theorem wMX0_166 : ∀ x ∈ wsV RX0 166 (zRn 8) yX8_passWord [.code yX8_passWord cX8_passWord 3 none], x ∈ zT := (List.forall_mem_cons.mpr ⟨zT_3 (List.mem_of_getElem? (i := 11) rfl) rfl, (List.forall_mem_cons.mpr ⟨zT_3 (List.mem_of_getElem? (i := 12) rfl) rfl, (List.forall_mem_cons.mpr ⟨zT_3 (List.mem_of_getElem? (i := 13) rfl) rfl, (List.forall_mem_cons.mpr ⟨zT_1 (List.mem_of_getElem? (i := 2) rfl) rfl, (List.forall_mem_cons.mpr ⟨wcyX8_passWord, (fun _ h => absurd h List.not_mem_nil)⟩)⟩)⟩)⟩)⟩)
theorem wMX0_170 : ∀ x ∈ wsV RX0 170 (zRn 8) yX8_passNumber [.code yX8_passNumber cX8_passNumber 4 (some .int)], x ∈ zT := (List.forall_mem_cons.mpr ⟨zT_3 (List.mem_of_getElem? (i := 16) rfl) rfl, (List.forall_mem_cons.mpr ⟨zT_3 (List.mem_of_getElem? (i := 17) rfl) rfl, (List.forall_mem_cons.mpr ⟨zT_3 (List.mem_of_getElem? (i := 18) rfl) rfl, (List.forall_mem_cons.mpr ⟨zT_1 (List.mem_of_getElem? (i := 2) rfl) rfl, (List.forall_mem_cons.mpr ⟨wcyX8_passNumber, (fun _ h => absurd h List.not_mem_nil)⟩)⟩)⟩)⟩)⟩)
theorem wMX0_174 : ∀ x ∈ wsV RX0 174 (zRn 8) yX8_passSign [.code yX8_passSign cX8_passSign 2 none], x ∈ zT := (List.forall_mem_cons.mpr ⟨zT_3 (List.mem_of_getElem? (i := 24) rfl) rfl, (List.forall_mem_cons.mpr ⟨zT_3 (List.mem_of_getElem? (i := 25) rfl) rfl, (List.forall_mem_cons.mpr ⟨zT_3 (List.mem_of_getElem? (i := 26) rfl) rfl, (List.forall_mem_cons.mpr ⟨zT_1 (List.mem_of_getElem? (i := 2) rfl) rfl, (List.forall_mem_cons.mpr ⟨wcyX8_passSign, (fun _ h => absurd h List.not_mem_nil)⟩)⟩)⟩)⟩)⟩)
theorem wMX0_178 : ∀ x ∈ wsV RX0 178 (zRn 3) yX3_put [.code yX3_put cX3_put 3 (some .int)], x ∈ zT := (List.forall_mem_cons.mpr ⟨zT_3 (List.mem_of_getElem? (i := 32) rfl) rfl, (List.forall_mem_cons.mpr ⟨zT_3 (List.mem_of_getElem? (i := 33) rfl) rfl, (List.forall_mem_cons.mpr ⟨zT_3 (List.mem_of_getElem? (i := 34) rfl) rfl, (List.forall_mem_cons.mpr ⟨zT_1 (List.mem_of_getElem? (i := 4) rfl) rfl, (List.forall_mem_cons.mpr ⟨wcyX3_put, (fun _ h => absurd h List.not_mem_nil)⟩)⟩)⟩)⟩)⟩)
theorem wMX0_181 : ∀ x ∈ wsV RX0 181 (zRn 8) yX8_passTold [.code yX8_passTold cX8_passTold 3 (some .int)], x ∈ zT := (List.forall_mem_cons.mpr ⟨zT_3 (List.mem_of_getElem? (i := 41) rfl) rfl, (List.forall_mem_cons.mpr ⟨zT_3 (List.mem_of_getElem? (i := 42) rfl) rfl, (List.forall_mem_cons.mpr ⟨zT_3 (List.mem_of_getElem? (i := 43) rfl) rfl, (List.forall_mem_cons.mpr ⟨zT_1 (List.mem_of_getElem? (i := 2) rfl) rfl, (List.forall_mem_cons.mpr ⟨wcyX8_passTold, (fun _ h => absurd h List.not_mem_nil)⟩)⟩)⟩)⟩)⟩)
theorem wMX0_188 : ∀ x ∈ wsV RX0 188 (zRn 0) yX0_isLinked [.code yX0_isLinked cX0_isLinked 3 (some .boolean)], x ∈ zT := (List.forall_mem_cons.mpr ⟨zT_3 (List.mem_of_getElem? (i := 47) rfl) rfl, (List.forall_mem_cons.mpr ⟨zT_3 (List.mem_of_getElem? (i := 48) rfl) rfl, (List.forall_mem_cons.mpr ⟨zT_3 (List.mem_of_getElem? (i := 49) rfl) rfl, (List.forall_mem_cons.mpr ⟨zT_1 (List.mem_of_getElem? (i := 3) rfl) rfl, (List.forall_mem_cons.mpr ⟨wcyX0_isLinked, (fun _ h => absurd h List.not_mem_nil)⟩)⟩)⟩)⟩)⟩)
theorem wMX0_192 : ∀ x ∈ wsV RX0 192 (zRn 8) yX8_failAt [.code yX8_failAt cX8_failAt 3 none], x ∈ zT := (List.forall_mem_cons.mpr ⟨zT_3 (List.mem_of_getElem? (i := 51) rfl) rfl, (List.forall_mem_cons.mpr ⟨zT_2 (List.mem_of_getElem? (i := 224) rfl) rfl, (List.forall_mem_cons.mpr ⟨zT_2 (List.mem_of_getElem? (i := 225) rfl) rfl, (List.forall_mem_cons.mpr ⟨zT_1 (List.mem_of_getElem? (i := 2) rfl) rfl, (List.forall_mem_cons.mpr ⟨wcyX8_failAt, (fun _ h => absurd h List.not_mem_nil)⟩)⟩)⟩)⟩)⟩)
theorem wMX0_196 : ∀ x ∈ wsV RX0 196 (zRn 0) yX0_flipLink [.code yX0_flipLink cX0_flipLink 3 none], x ∈ zT := (List.forall_mem_cons.mpr ⟨zT_3 (List.mem_of_getElem? (i := 52) rfl) rfl, (List.forall_mem_cons.mpr ⟨zT_3 (List.mem_of_getElem? (i := 53) rfl) rfl, (List.forall_mem_cons.mpr ⟨zT_3 (List.mem_of_getElem? (i := 54) rfl) rfl, (List.forall_mem_cons.mpr ⟨zT_1 (List.mem_of_getElem? (i := 3) rfl) rfl, (List.forall_mem_cons.mpr ⟨wcyX0_flipLink, (fun _ h => absurd h List.not_mem_nil)⟩)⟩)⟩)⟩)⟩)
theorem wMX0_199 : ∀ x ∈ va_wsS RX0 199 yX0_passKind [.code yX0_passKind cX0_passKind 2 (some .int)], x ∈ zT := (List.forall_mem_cons.mpr ⟨zT_3 (List.mem_of_getElem? (i := 61) rfl) rfl, (List.forall_mem_cons.mpr ⟨zT_3 (List.mem_of_getElem? (i := 62) rfl) rfl, (List.forall_mem_cons.mpr ⟨zT_1 (List.mem_of_getElem? (i := 3) rfl) rfl, (List.forall_mem_cons.mpr ⟨wcyX0_passKind, (fun _ h => absurd h List.not_mem_nil)⟩)⟩)⟩)⟩)
theorem wMX0_219 : ∀ x ∈ wsV RX0 219 (zRn 8) yX8_atNumber [.code yX8_atNumber cX8_atNumber 1 (some .boolean)], x ∈ zT := (List.forall_mem_cons.mpr ⟨zT_3 (List.mem_of_getElem? (i := 87) rfl) rfl, (List.forall_mem_cons.mpr ⟨zT_3 (List.mem_of_getElem? (i := 21) rfl) rfl, (List.forall_mem_cons.mpr ⟨zT_3 (List.mem_of_getElem? (i := 22) rfl) rfl, (List.forall_mem_cons.mpr ⟨zT_1 (List.mem_of_getElem? (i := 2) rfl) rfl, (List.forall_mem_cons.mpr ⟨wcyX8_atNumber, (fun _ h => absurd h List.not_mem_nil)⟩)⟩)⟩)⟩)⟩)
theorem wMX0_222 : ∀ x ∈ wsV RX0 222 (zRn 0) yX0_readMoreRain [.code yX0_readMoreRain cX0_readMoreRain 4 none], x ∈ zT := (List.forall_mem_cons.mpr ⟨zT_3 (List.mem_of_getElem? (i := 88) rfl) rfl, (List.forall_mem_cons.mpr ⟨zT_3 (List.mem_of_getElem? (i := 90) rfl) rfl, (List.forall_mem_cons.mpr ⟨zT_s (List.mem_of_getElem? (i := 13) rfl) rfl, (List.forall_mem_cons.mpr ⟨zT_1 (List.mem_of_getElem? (i := 3) rfl) rfl, (List.forall_mem_cons.mpr ⟨wcyX0_readMoreRain, (fun _ h => absurd h List.not_mem_nil)⟩)⟩)⟩)⟩)⟩)
theorem wMX0_225 : ∀ x ∈ ([.instanceMethod yX1_readExpression, .selects (zRn 1) yX1_readExpression yX1_readExpression, .initialized yX1_readExpression.cls, .code yX1_readExpression cX1_readExpression 5 none] : List Cond), x ∈ zT := (List.forall_mem_cons.mpr ⟨zT_3 (List.mem_of_getElem? (i := 99) rfl) rfl, (List.forall_mem_cons.mpr ⟨zT_s (List.mem_of_getElem? (i := 15) rfl) rfl, (List.forall_mem_cons.mpr ⟨zT_1 (List.mem_of_getElem? (i := 5) rfl) rfl, (List.forall_mem_cons.mpr ⟨wcyX1_readExpression, (fun _ h => absurd h List.not_mem_nil)⟩)⟩)⟩)⟩)
theorem wMX0_229 : ∀ x ∈ va_wsS RX0 229 yJ9_floorMod_7cf53 [.code yJ9_floorMod_7cf53 cJ9_floorMod_7cf53 3 (some .int)], x ∈ zT := (List.forall_mem_cons.mpr ⟨zT_3 (List.mem_of_getElem? (i := 223) rfl) rfl, (List.forall_mem_cons.mpr ⟨zT_3 (List.mem_of_getElem? (i := 224) rfl) rfl, (List.forall_mem_cons.mpr ⟨zT_1 (List.mem_of_getElem? (i := 14) rfl) rfl, (List.forall_mem_cons.mpr ⟨wcyJ9_floorMod_7cf53, (fun _ h => absurd h List.not_mem_nil)⟩)⟩)⟩)⟩)
theorem wMX0_234 : ∀ x ∈ va_wsS RX0 234 yJ6_bitCount_0f7a4 [.code yJ6_bitCount_0f7a4 cJ6_bitCount_0f7a4 1 (some .int)], x ∈ zT := (List.forall_mem_cons.mpr ⟨zT_4 (List.mem_of_getElem? (i := 54) rfl) rfl, (List.forall_mem_cons.mpr ⟨zT_4 (List.mem_of_getElem? (i := 1) rfl) rfl, (List.forall_mem_cons.mpr ⟨zT_1 (List.mem_of_getElem? (i := 13) rfl) rfl, (List.forall_mem_cons.mpr ⟨wcyJ6_bitCount_0f7a4, (fun _ h => absurd h List.not_mem_nil)⟩)⟩)⟩)⟩)
theorem wMX0_240 : ∀ x ∈ wsV RX0 240 (zRn 1) yX1_tells [.code yX1_tells cX1_tells 8 (some .int)], x ∈ zT := (List.forall_mem_cons.mpr ⟨zT_4 (List.mem_of_getElem? (i := 55) rfl) rfl, (List.forall_mem_cons.mpr ⟨zT_4 (List.mem_of_getElem? (i := 56) rfl) rfl, (List.forall_mem_cons.mpr ⟨zT_4 (List.mem_of_getElem? (i := 57) rfl) rfl, (List.forall_mem_cons.mpr ⟨zT_1 (List.mem_of_getElem? (i := 5) rfl) rfl, (List.forall_mem_cons.mpr ⟨wcyX1_tells, (fun _ h => absurd h List.not_mem_nil)⟩)⟩)⟩)⟩)⟩)
theorem wMX0_244 : ∀ x ∈ va_wsS RX0 244 yJ9_min_7cf53 [.code yJ9_min_7cf53 cJ9_min_7cf53 2 (some .int)], x ∈ zT := (List.forall_mem_cons.mpr ⟨zT_4 (List.mem_of_getElem? (i := 65) rfl) rfl, (List.forall_mem_cons.mpr ⟨zT_4 (List.mem_of_getElem? (i := 15) rfl) rfl, (List.forall_mem_cons.mpr ⟨zT_1 (List.mem_of_getElem? (i := 14) rfl) rfl, (List.forall_mem_cons.mpr ⟨wcyJ9_min_7cf53, (fun _ h => absurd h List.not_mem_nil)⟩)⟩)⟩)⟩)
theorem wMX0_247 : ∀ x ∈ va_wsS RX0 247 yJ9_max_7cf53 [.code yJ9_max_7cf53 cJ9_max_7cf53 2 (some .int)], x ∈ zT := (List.forall_mem_cons.mpr ⟨zT_4 (List.mem_of_getElem? (i := 66) rfl) rfl, (List.forall_mem_cons.mpr ⟨zT_4 (List.mem_of_getElem? (i := 67) rfl) rfl, (List.forall_mem_cons.mpr ⟨zT_1 (List.mem_of_getElem? (i := 14) rfl) rfl, (List.forall_mem_cons.mpr ⟨wcyJ9_max_7cf53, (fun _ h => absurd h List.not_mem_nil)⟩)⟩)⟩)⟩)
theorem wMX0_250 : ∀ x ∈ wsV RX0 250 (zRn 0) yX0_spread [.code yX0_spread cX0_spread 5 (some .int)], x ∈ zT := (List.forall_mem_cons.mpr ⟨zT_5 (List.mem_of_getElem? (i := 13) rfl) rfl, (List.forall_mem_cons.mpr ⟨zT_4 (List.mem_of_getElem? (i := 184) rfl) rfl, (List.forall_mem_cons.mpr ⟨zT_4 (List.mem_of_getElem? (i := 185) rfl) rfl, (List.forall_mem_cons.mpr ⟨zT_1 (List.mem_of_getElem? (i := 3) rfl) rfl, (List.forall_mem_cons.mpr ⟨wcyX0_spread, (fun _ h => absurd h List.not_mem_nil)⟩)⟩)⟩)⟩)⟩)
theorem wMX1_22 : ∀ x ∈ wsV RX1 22 (zRn 1) yX1_readTest [.code yX1_readTest cX1_readTest 4 none], x ∈ zT := (List.forall_mem_cons.mpr ⟨zT_3 (List.mem_of_getElem? (i := 101) rfl) rfl, (List.forall_mem_cons.mpr ⟨zT_3 (List.mem_of_getElem? (i := 103) rfl) rfl, (List.forall_mem_cons.mpr ⟨zT_s (List.mem_of_getElem? (i := 16) rfl) rfl, (List.forall_mem_cons.mpr ⟨zT_1 (List.mem_of_getElem? (i := 5) rfl) rfl, (List.forall_mem_cons.mpr ⟨wcyX1_readTest, (fun _ h => absurd h List.not_mem_nil)⟩)⟩)⟩)⟩)⟩)
theorem wMX1_28 : ∀ x ∈ wsV RX1 28 (zRn 8) yX8_atWord [.code yX8_atWord cX8_atWord 3 (some .boolean)], x ∈ zT := (List.forall_mem_cons.mpr ⟨zT_3 (List.mem_of_getElem? (i := 118) rfl) rfl, (List.forall_mem_cons.mpr ⟨zT_2 (List.mem_of_getElem? (i := 205) rfl) rfl, (List.forall_mem_cons.mpr ⟨zT_2 (List.mem_of_getElem? (i := 206) rfl) rfl, (List.forall_mem_cons.mpr ⟨zT_1 (List.mem_of_getElem? (i := 2) rfl) rfl, (List.forall_mem_cons.mpr ⟨wcyX8_atWord, (fun _ h => absurd h List.not_mem_nil)⟩)⟩)⟩)⟩)⟩)
theorem wMX1_36 : ∀ x ∈ wsV RX1 36 (zRn 8) yX8_step [.code yX8_step cX8_step 1 none], x ∈ zT := (List.forall_mem_cons.mpr ⟨zT_3 (List.mem_of_getElem? (i := 129) rfl) rfl, (List.forall_mem_cons.mpr ⟨zT_2 (List.mem_of_getElem? (i := 180) rfl) rfl, (List.forall_mem_cons.mpr ⟨zT_2 (List.mem_of_getElem? (i := 181) rfl) rfl, (List.forall_mem_cons.mpr ⟨zT_1 (List.mem_of_getElem? (i := 2) rfl) rfl, (List.forall_mem_cons.mpr ⟨wcyX8_step, (fun _ h => absurd h List.not_mem_nil)⟩)⟩)⟩)⟩)⟩)
theorem wMX1_39 : ∀ x ∈ wsV RX1 39 (zRn 1) yX1_put [.code yX1_put cX1_put 2 none], x ∈ zT := (List.forall_mem_cons.mpr ⟨zT_3 (List.mem_of_getElem? (i := 130) rfl) rfl, (List.forall_mem_cons.mpr ⟨zT_3 (List.mem_of_getElem? (i := 132) rfl) rfl, (List.forall_mem_cons.mpr ⟨zT_s (List.mem_of_getElem? (i := 20) rfl) rfl, (List.forall_mem_cons.mpr ⟨zT_1 (List.mem_of_getElem? (i := 5) rfl) rfl, (List.forall_mem_cons.mpr ⟨wcyX1_put, (fun _ h => absurd h List.not_mem_nil)⟩)⟩)⟩)⟩)⟩)
theorem wMX1_43 : ∀ x ∈ wsV RX1 43 (zRn 1) yX1_readSum [.code yX1_readSum cX1_readSum 5 none], x ∈ zT := (List.forall_mem_cons.mpr ⟨zT_3 (List.mem_of_getElem? (i := 105) rfl) rfl, (List.forall_mem_cons.mpr ⟨zT_3 (List.mem_of_getElem? (i := 107) rfl) rfl, (List.forall_mem_cons.mpr ⟨zT_s (List.mem_of_getElem? (i := 17) rfl) rfl, (List.forall_mem_cons.mpr ⟨zT_1 (List.mem_of_getElem? (i := 5) rfl) rfl, (List.forall_mem_cons.mpr ⟨wcyX1_readSum, (fun _ h => absurd h List.not_mem_nil)⟩)⟩)⟩)⟩)⟩)
theorem wMX1_46 : ∀ x ∈ wsV RX1 46 (zRn 8) yX8_atSign [.code yX8_atSign cX8_atSign 2 (some .boolean)], x ∈ zT := (List.forall_mem_cons.mpr ⟨zT_3 (List.mem_of_getElem? (i := 119) rfl) rfl, (List.forall_mem_cons.mpr ⟨zT_3 (List.mem_of_getElem? (i := 29) rfl) rfl, (List.forall_mem_cons.mpr ⟨zT_3 (List.mem_of_getElem? (i := 30) rfl) rfl, (List.forall_mem_cons.mpr ⟨zT_1 (List.mem_of_getElem? (i := 2) rfl) rfl, (List.forall_mem_cons.mpr ⟨wcyX8_atSign, (fun _ h => absurd h List.not_mem_nil)⟩)⟩)⟩)⟩)⟩)
theorem wMX1_50 : ∀ x ∈ wsV RX1 50 (zRn 1) yX1_readProduct [.code yX1_readProduct cX1_readProduct 4 none], x ∈ zT := (List.forall_mem_cons.mpr ⟨zT_3 (List.mem_of_getElem? (i := 109) rfl) rfl, (List.forall_mem_cons.mpr ⟨zT_3 (List.mem_of_getElem? (i := 111) rfl) rfl, (List.forall_mem_cons.mpr ⟨zT_s (List.mem_of_getElem? (i := 18) rfl) rfl, (List.forall_mem_cons.mpr ⟨zT_1 (List.mem_of_getElem? (i := 5) rfl) rfl, (List.forall_mem_cons.mpr ⟨wcyX1_readProduct, (fun _ h => absurd h List.not_mem_nil)⟩)⟩)⟩)⟩)⟩)
theorem wMX1_53 : ∀ x ∈ wsV RX1 53 (zRn 1) yX1_readPart [.code yX1_readPart cX1_readPart 6 none], x ∈ zT := (List.forall_mem_cons.mpr ⟨zT_3 (List.mem_of_getElem? (i := 113) rfl) rfl, (List.forall_mem_cons.mpr ⟨zT_3 (List.mem_of_getElem? (i := 115) rfl) rfl, (List.forall_mem_cons.mpr ⟨zT_s (List.mem_of_getElem? (i := 19) rfl) rfl, (List.forall_mem_cons.mpr ⟨zT_1 (List.mem_of_getElem? (i := 5) rfl) rfl, (List.forall_mem_cons.mpr ⟨wcyX1_readPart, (fun _ h => absurd h List.not_mem_nil)⟩)⟩)⟩)⟩)⟩)
theorem wMX1_58 : ∀ x ∈ va_wsS RX1 58 yX1_simpleStep [.code yX1_simpleStep cX1_simpleStep 1 (some .int)], x ∈ zT := (List.forall_mem_cons.mpr ⟨zT_3 (List.mem_of_getElem? (i := 120) rfl) rfl, (List.forall_mem_cons.mpr ⟨zT_3 (List.mem_of_getElem? (i := 121) rfl) rfl, (List.forall_mem_cons.mpr ⟨zT_1 (List.mem_of_getElem? (i := 5) rfl) rfl, (List.forall_mem_cons.mpr ⟨wcyX1_simpleStep, (fun _ h => absurd h List.not_mem_nil)⟩)⟩)⟩)⟩)
theorem wMX1_62 : ∀ x ∈ wsV RX1 62 (zRn 8) yX8_fail [.code yX8_fail cX8_fail 2 none], x ∈ zT := (List.forall_mem_cons.mpr ⟨zT_3 (List.mem_of_getElem? (i := 128) rfl) rfl, (List.forall_mem_cons.mpr ⟨zT_2 (List.mem_of_getElem? (i := 220) rfl) rfl, (List.forall_mem_cons.mpr ⟨zT_2 (List.mem_of_getElem? (i := 221) rfl) rfl, (List.forall_mem_cons.mpr ⟨zT_1 (List.mem_of_getElem? (i := 2) rfl) rfl, (List.forall_mem_cons.mpr ⟨wcyX8_fail, (fun _ h => absurd h List.not_mem_nil)⟩)⟩)⟩)⟩)⟩)
theorem wMX1_65 : ∀ x ∈ wsV RX1 65 (zRn 1) yX1_readExpression [.code yX1_readExpression cX1_readExpression 5 none], x ∈ zT := (List.forall_mem_cons.mpr ⟨zT_3 (List.mem_of_getElem? (i := 134) rfl) rfl, (List.forall_mem_cons.mpr ⟨zT_3 (List.mem_of_getElem? (i := 99) rfl) rfl, (List.forall_mem_cons.mpr ⟨zT_s (List.mem_of_getElem? (i := 15) rfl) rfl, (List.forall_mem_cons.mpr ⟨zT_1 (List.mem_of_getElem? (i := 5) rfl) rfl, (List.forall_mem_cons.mpr ⟨wcyX1_readExpression, (fun _ h => absurd h List.not_mem_nil)⟩)⟩)⟩)⟩)⟩)
theorem wMX1_68 : ∀ x ∈ wsV RX1 68 (zRn 8) yX8_passSign [.code yX8_passSign cX8_passSign 2 none], x ∈ zT := (List.forall_mem_cons.mpr ⟨zT_3 (List.mem_of_getElem? (i := 135) rfl) rfl, (List.forall_mem_cons.mpr ⟨zT_3 (List.mem_of_getElem? (i := 25) rfl) rfl, (List.forall_mem_cons.mpr ⟨zT_3 (List.mem_of_getElem? (i := 26) rfl) rfl, (List.forall_mem_cons.mpr ⟨zT_1 (List.mem_of_getElem? (i := 2) rfl) rfl, (List.forall_mem_cons.mpr ⟨wcyX8_passSign, (fun _ h => absurd h List.not_mem_nil)⟩)⟩)⟩)⟩)⟩)
theorem wMX1_72 : ∀ x ∈ wsV RX1 72 (zRn 8) yX8_atNumber [.code yX8_atNumber cX8_atNumber 1 (some .boolean)], x ∈ zT := (List.forall_mem_cons.mpr ⟨zT_3 (List.mem_of_getElem? (i := 123) rfl) rfl, (List.forall_mem_cons.mpr ⟨zT_3 (List.mem_of_getElem? (i := 21) rfl) rfl, (List.forall_mem_cons.mpr ⟨zT_3 (List.mem_of_getElem? (i := 22) rfl) rfl, (List.forall_mem_cons.mpr ⟨zT_1 (List.mem_of_getElem? (i := 2) rfl) rfl, (List.forall_mem_cons.mpr ⟨wcyX8_atNumber, (fun _ h => absurd h List.not_mem_nil)⟩)⟩)⟩)⟩)⟩)
theorem wMX1_88 : ∀ x ∈ va_wsS RX1 88 yX1_simple [.code yX1_simple cX1_simple 5 (some .int)], x ∈ zT := (List.forall_mem_cons.mpr ⟨zT_4 (List.mem_of_getElem? (i := 59) rfl) rfl, (List.forall_mem_cons.mpr ⟨zT_4 (List.mem_of_getElem? (i := 60) rfl) rfl, (List.forall_mem_cons.mpr ⟨zT_1 (List.mem_of_getElem? (i := 5) rfl) rfl, (List.forall_mem_cons.mpr ⟨wcyX1_simple, (fun _ h => absurd h List.not_mem_nil)⟩)⟩)⟩)⟩)
theorem wMX1_92 : ∀ x ∈ va_wsS RX1 92 yX1_join [.code yX1_join cX1_join 3 (some .int)], x ∈ zT := (List.forall_mem_cons.mpr ⟨zT_4 (List.mem_of_getElem? (i := 62) rfl) rfl, (List.forall_mem_cons.mpr ⟨zT_4 (List.mem_of_getElem? (i := 63) rfl) rfl, (List.forall_mem_cons.mpr ⟨zT_1 (List.mem_of_getElem? (i := 5) rfl) rfl, (List.forall_mem_cons.mpr ⟨wcyX1_join, (fun _ h => absurd h List.not_mem_nil)⟩)⟩)⟩)⟩)
theorem wMX2_30 : ∀ x ∈ wsV RX2 30 (zRn 7) yX7_copy [.code yX7_copy cX7_copy 2 none], x ∈ zT := (List.forall_mem_cons.mpr ⟨zT_4 (List.mem_of_getElem? (i := 86) rfl) rfl, (List.forall_mem_cons.mpr ⟨zT_4 (List.mem_of_getElem? (i := 11) rfl) rfl, (List.forall_mem_cons.mpr ⟨zT_4 (List.mem_of_getElem? (i := 12) rfl) rfl, (List.forall_mem_cons.mpr ⟨zT_1 (List.mem_of_getElem? (i := 7) rfl) rfl, (List.forall_mem_cons.mpr ⟨wcyX7_copy, (fun _ h => absurd h List.not_mem_nil)⟩)⟩)⟩)⟩)⟩)
theorem wMX2_34 : ∀ x ∈ wsV RX2 34 (zRn 6) yX6_copy [.code yX6_copy cX6_copy 2 none], x ∈ zT := (List.forall_mem_cons.mpr ⟨zT_4 (List.mem_of_getElem? (i := 87) rfl) rfl, (List.forall_mem_cons.mpr ⟨zT_4 (List.mem_of_getElem? (i := 88) rfl) rfl, (List.forall_mem_cons.mpr ⟨zT_4 (List.mem_of_getElem? (i := 89) rfl) rfl, (List.forall_mem_cons.mpr ⟨zT_1 (List.mem_of_getElem? (i := 6) rfl) rfl, (List.forall_mem_cons.mpr ⟨wcyX6_copy, (fun _ h => absurd h List.not_mem_nil)⟩)⟩)⟩)⟩)⟩)
theorem wMX2_37 : ∀ x ∈ wsV RX2 37 (zRn 5) yX5_copy [.code yX5_copy cX5_copy 3 none], x ∈ zT := (List.forall_mem_cons.mpr ⟨zT_4 (List.mem_of_getElem? (i := 92) rfl) rfl, (List.forall_mem_cons.mpr ⟨zT_4 (List.mem_of_getElem? (i := 93) rfl) rfl, (List.forall_mem_cons.mpr ⟨zT_4 (List.mem_of_getElem? (i := 94) rfl) rfl, (List.forall_mem_cons.mpr ⟨zT_1 (List.mem_of_getElem? (i := 8) rfl) rfl, (List.forall_mem_cons.mpr ⟨wcyX5_copy, (fun _ h => absurd h List.not_mem_nil)⟩)⟩)⟩)⟩)⟩)
theorem wMX4_38 : ∀ x ∈ wsV RX4 38 (zRn 7) yX7_copy [.code yX7_copy cX7_copy 2 none], x ∈ zT := (List.forall_mem_cons.mpr ⟨zT_4 (List.mem_of_getElem? (i := 119) rfl) rfl, (List.forall_mem_cons.mpr ⟨zT_4 (List.mem_of_getElem? (i := 11) rfl) rfl, (List.forall_mem_cons.mpr ⟨zT_4 (List.mem_of_getElem? (i := 12) rfl) rfl, (List.forall_mem_cons.mpr ⟨zT_1 (List.mem_of_getElem? (i := 7) rfl) rfl, (List.forall_mem_cons.mpr ⟨wcyX7_copy, (fun _ h => absurd h List.not_mem_nil)⟩)⟩)⟩)⟩)⟩)
theorem wMX4_42 : ∀ x ∈ wsV RX4 42 (zRn 7) yX7_nextDay [.code yX7_nextDay cX7_nextDay 4 none], x ∈ zT := (List.forall_mem_cons.mpr ⟨zT_4 (List.mem_of_getElem? (i := 120) rfl) rfl, (List.forall_mem_cons.mpr ⟨zT_4 (List.mem_of_getElem? (i := 46) rfl) rfl, (List.forall_mem_cons.mpr ⟨zT_4 (List.mem_of_getElem? (i := 47) rfl) rfl, (List.forall_mem_cons.mpr ⟨zT_1 (List.mem_of_getElem? (i := 7) rfl) rfl, (List.forall_mem_cons.mpr ⟨wcyX7_nextDay, (fun _ h => absurd h List.not_mem_nil)⟩)⟩)⟩)⟩)⟩)
theorem wAX4_47 : Cond.methodLink RX4 47 arraycopyName ∈ zT := zT_4 (List.mem_of_getElem? (i := 121) rfl) rfl
theorem wMX4_56 : ∀ x ∈ wsV RX4 56 (zRn 7) yX7_wetBits [.code yX7_wetBits cX7_wetBits 4 (some .int)], x ∈ zT := (List.forall_mem_cons.mpr ⟨zT_4 (List.mem_of_getElem? (i := 122) rfl) rfl, (List.forall_mem_cons.mpr ⟨zT_3 (List.mem_of_getElem? (i := 227) rfl) rfl, (List.forall_mem_cons.mpr ⟨zT_3 (List.mem_of_getElem? (i := 228) rfl) rfl, (List.forall_mem_cons.mpr ⟨zT_1 (List.mem_of_getElem? (i := 7) rfl) rfl, (List.forall_mem_cons.mpr ⟨wcyX7_wetBits, (fun _ h => absurd h List.not_mem_nil)⟩)⟩)⟩)⟩)⟩)
theorem wMX4_71 : ∀ x ∈ va_wsS RX4 71 yX4_swimsOn [.code yX4_swimsOn cX4_swimsOn 4 (some .int)], x ∈ zT := (List.forall_mem_cons.mpr ⟨zT_4 (List.mem_of_getElem? (i := 180) rfl) rfl, (List.forall_mem_cons.mpr ⟨zT_4 (List.mem_of_getElem? (i := 181) rfl) rfl, (List.forall_mem_cons.mpr ⟨zT_1 (List.mem_of_getElem? (i := 9) rfl) rfl, (List.forall_mem_cons.mpr ⟨wcyX4_swimsOn, (fun _ h => absurd h List.not_mem_nil)⟩)⟩)⟩)⟩)
theorem wMX4_75 : ∀ x ∈ wsV RX4 75 (zRn 0) yX0_spread [.code yX0_spread cX0_spread 5 (some .int)], x ∈ zT := (List.forall_mem_cons.mpr ⟨zT_4 (List.mem_of_getElem? (i := 183) rfl) rfl, (List.forall_mem_cons.mpr ⟨zT_4 (List.mem_of_getElem? (i := 184) rfl) rfl, (List.forall_mem_cons.mpr ⟨zT_4 (List.mem_of_getElem? (i := 185) rfl) rfl, (List.forall_mem_cons.mpr ⟨zT_1 (List.mem_of_getElem? (i := 3) rfl) rfl, (List.forall_mem_cons.mpr ⟨wcyX0_spread, (fun _ h => absurd h List.not_mem_nil)⟩)⟩)⟩)⟩)⟩)
theorem wMX4_85 : ∀ x ∈ wsV RX4 85 (zRn 4) yX4_placeOn [.code yX4_placeOn cX4_placeOn 3 (some .int)], x ∈ zT := (List.forall_mem_cons.mpr ⟨zT_4 (List.mem_of_getElem? (i := 195) rfl) rfl, (List.forall_mem_cons.mpr ⟨zT_4 (List.mem_of_getElem? (i := 132) rfl) rfl, (List.forall_mem_cons.mpr ⟨zT_4 (List.mem_of_getElem? (i := 133) rfl) rfl, (List.forall_mem_cons.mpr ⟨zT_1 (List.mem_of_getElem? (i := 9) rfl) rfl, (List.forall_mem_cons.mpr ⟨wcyX4_placeOn, (fun _ h => absurd h List.not_mem_nil)⟩)⟩)⟩)⟩)⟩)
theorem wMX4_91 : ∀ x ∈ wsV RX4 91 (zRn 4) yX4_waterOn [.code yX4_waterOn cX4_waterOn 3 (some .int)], x ∈ zT := (List.forall_mem_cons.mpr ⟨zT_4 (List.mem_of_getElem? (i := 196) rfl) rfl, (List.forall_mem_cons.mpr ⟨zT_4 (List.mem_of_getElem? (i := 124) rfl) rfl, (List.forall_mem_cons.mpr ⟨zT_4 (List.mem_of_getElem? (i := 125) rfl) rfl, (List.forall_mem_cons.mpr ⟨zT_1 (List.mem_of_getElem? (i := 9) rfl) rfl, (List.forall_mem_cons.mpr ⟨wcyX4_waterOn, (fun _ h => absurd h List.not_mem_nil)⟩)⟩)⟩)⟩)⟩)
theorem wMX4_94 : ∀ x ∈ va_wsS RX4 94 yX7_isServable [.code yX7_isServable cX7_isServable 2 (some .boolean)], x ∈ zT := (List.forall_mem_cons.mpr ⟨zT_4 (List.mem_of_getElem? (i := 197) rfl) rfl, (List.forall_mem_cons.mpr ⟨zT_4 (List.mem_of_getElem? (i := 39) rfl) rfl, (List.forall_mem_cons.mpr ⟨zT_1 (List.mem_of_getElem? (i := 7) rfl) rfl, (List.forall_mem_cons.mpr ⟨wcyX7_isServable, (fun _ h => absurd h List.not_mem_nil)⟩)⟩)⟩)⟩)
theorem wMX4_110 : ∀ x ∈ wsV RX4 110 (zRn 4) yX4_daysToServe [.code yX4_daysToServe cX4_daysToServe 12 (some .int)], x ∈ zT := (List.forall_mem_cons.mpr ⟨zT_4 (List.mem_of_getElem? (i := 210) rfl) rfl, (List.forall_mem_cons.mpr ⟨zT_4 (List.mem_of_getElem? (i := 192) rfl) rfl, (List.forall_mem_cons.mpr ⟨zT_4 (List.mem_of_getElem? (i := 193) rfl) rfl, (List.forall_mem_cons.mpr ⟨zT_1 (List.mem_of_getElem? (i := 9) rfl) rfl, (List.forall_mem_cons.mpr ⟨wcyX4_daysToServe, (fun _ h => absurd h List.not_mem_nil)⟩)⟩)⟩)⟩)⟩)
theorem wMX4_117 : ∀ x ∈ wsV RX4 117 (zRn 4) yX4_weighRow [.code yX4_weighRow cX4_weighRow 10 none], x ∈ zT := (List.forall_mem_cons.mpr ⟨zT_4 (List.mem_of_getElem? (i := 211) rfl) rfl, (List.forall_mem_cons.mpr ⟨zT_4 (List.mem_of_getElem? (i := 213) rfl) rfl, (List.forall_mem_cons.mpr ⟨zT_s (List.mem_of_getElem? (i := 32) rfl) rfl, (List.forall_mem_cons.mpr ⟨zT_1 (List.mem_of_getElem? (i := 9) rfl) rfl, (List.forall_mem_cons.mpr ⟨wcyX4_weighRow, (fun _ h => absurd h List.not_mem_nil)⟩)⟩)⟩)⟩)⟩)
theorem wMX4_121 : ∀ x ∈ va_wsS RX4 121 yJ6_bitCount_0f7a4 [.code yJ6_bitCount_0f7a4 cJ6_bitCount_0f7a4 1 (some .int)], x ∈ zT := (List.forall_mem_cons.mpr ⟨zT_4 (List.mem_of_getElem? (i := 215) rfl) rfl, (List.forall_mem_cons.mpr ⟨zT_4 (List.mem_of_getElem? (i := 1) rfl) rfl, (List.forall_mem_cons.mpr ⟨zT_1 (List.mem_of_getElem? (i := 13) rfl) rfl, (List.forall_mem_cons.mpr ⟨wcyJ6_bitCount_0f7a4, (fun _ h => absurd h List.not_mem_nil)⟩)⟩)⟩)⟩)
theorem wMX4_130 : ∀ x ∈ wsV RX4 130 (zRn 4) yX4_keepRow [.code yX4_keepRow cX4_keepRow 7 none], x ∈ zT := (List.forall_mem_cons.mpr ⟨zT_4 (List.mem_of_getElem? (i := 216) rfl) rfl, (List.forall_mem_cons.mpr ⟨zT_4 (List.mem_of_getElem? (i := 218) rfl) rfl, (List.forall_mem_cons.mpr ⟨zT_s (List.mem_of_getElem? (i := 33) rfl) rfl, (List.forall_mem_cons.mpr ⟨zT_1 (List.mem_of_getElem? (i := 9) rfl) rfl, (List.forall_mem_cons.mpr ⟨wcyX4_keepRow, (fun _ h => absurd h List.not_mem_nil)⟩)⟩)⟩)⟩)⟩)
theorem wAX6_21 : Cond.methodLink RX6 21 arraycopyName ∈ zT := zT_4 (List.mem_of_getElem? (i := 91) rfl) rfl
theorem wMX6_31 : ∀ x ∈ wsV RX6 31 (zRn 8) yX8_begin [.code yX8_begin cX8_begin 1 none], x ∈ zT := (List.forall_mem_cons.mpr ⟨zT_3 (List.mem_of_getElem? (i := 162) rfl) rfl, (List.forall_mem_cons.mpr ⟨zT_2 (List.mem_of_getElem? (i := 176) rfl) rfl, (List.forall_mem_cons.mpr ⟨zT_2 (List.mem_of_getElem? (i := 177) rfl) rfl, (List.forall_mem_cons.mpr ⟨zT_1 (List.mem_of_getElem? (i := 2) rfl) rfl, (List.forall_mem_cons.mpr ⟨wcyX8_begin, (fun _ h => absurd h List.not_mem_nil)⟩)⟩)⟩)⟩)⟩)
theorem wMX6_36 : ∀ x ∈ wsV RX6 36 (zRn 8) yX8_isFine [.code yX8_isFine cX8_isFine 1 (some .boolean)], x ∈ zT := (List.forall_mem_cons.mpr ⟨zT_3 (List.mem_of_getElem? (i := 163) rfl) rfl, (List.forall_mem_cons.mpr ⟨zT_2 (List.mem_of_getElem? (i := 196) rfl) rfl, (List.forall_mem_cons.mpr ⟨zT_2 (List.mem_of_getElem? (i := 197) rfl) rfl, (List.forall_mem_cons.mpr ⟨zT_1 (List.mem_of_getElem? (i := 2) rfl) rfl, (List.forall_mem_cons.mpr ⟨wcyX8_isFine, (fun _ h => absurd h List.not_mem_nil)⟩)⟩)⟩)⟩)⟩)
theorem wMX6_43 : ∀ x ∈ wsV RX6 43 (zRn 6) yX6_readLine [.code yX6_readLine cX6_readLine 4 none], x ∈ zT := (List.forall_mem_cons.mpr ⟨zT_3 (List.mem_of_getElem? (i := 164) rfl) rfl, (List.forall_mem_cons.mpr ⟨zT_3 (List.mem_of_getElem? (i := 166) rfl) rfl, (List.forall_mem_cons.mpr ⟨zT_s (List.mem_of_getElem? (i := 23) rfl) rfl, (List.forall_mem_cons.mpr ⟨zT_1 (List.mem_of_getElem? (i := 6) rfl) rfl, (List.forall_mem_cons.mpr ⟨wcyX6_readLine, (fun _ h => absurd h List.not_mem_nil)⟩)⟩)⟩)⟩)⟩)
theorem wMX6_47 : ∀ x ∈ va_wsS RX6 47 yX6_sortOf [.code yX6_sortOf cX6_sortOf 1 (some .int)], x ∈ zT := (List.forall_mem_cons.mpr ⟨zT_3 (List.mem_of_getElem? (i := 168) rfl) rfl, (List.forall_mem_cons.mpr ⟨zT_3 (List.mem_of_getElem? (i := 169) rfl) rfl, (List.forall_mem_cons.mpr ⟨zT_1 (List.mem_of_getElem? (i := 6) rfl) rfl, (List.forall_mem_cons.mpr ⟨wcyX6_sortOf, (fun _ h => absurd h List.not_mem_nil)⟩)⟩)⟩)⟩)
theorem wMX6_51 : ∀ x ∈ wsV RX6 51 (zRn 8) yX8_fail [.code yX8_fail cX8_fail 2 none], x ∈ zT := (List.forall_mem_cons.mpr ⟨zT_3 (List.mem_of_getElem? (i := 176) rfl) rfl, (List.forall_mem_cons.mpr ⟨zT_2 (List.mem_of_getElem? (i := 220) rfl) rfl, (List.forall_mem_cons.mpr ⟨zT_2 (List.mem_of_getElem? (i := 221) rfl) rfl, (List.forall_mem_cons.mpr ⟨zT_1 (List.mem_of_getElem? (i := 2) rfl) rfl, (List.forall_mem_cons.mpr ⟨wcyX8_fail, (fun _ h => absurd h List.not_mem_nil)⟩)⟩)⟩)⟩)⟩)
theorem wMX6_55 : ∀ x ∈ wsV RX6 55 (zRn 8) yX8_step [.code yX8_step cX8_step 1 none], x ∈ zT := (List.forall_mem_cons.mpr ⟨zT_3 (List.mem_of_getElem? (i := 177) rfl) rfl, (List.forall_mem_cons.mpr ⟨zT_2 (List.mem_of_getElem? (i := 180) rfl) rfl, (List.forall_mem_cons.mpr ⟨zT_2 (List.mem_of_getElem? (i := 181) rfl) rfl, (List.forall_mem_cons.mpr ⟨zT_1 (List.mem_of_getElem? (i := 2) rfl) rfl, (List.forall_mem_cons.mpr ⟨wcyX8_step, (fun _ h => absurd h List.not_mem_nil)⟩)⟩)⟩)⟩)⟩)
theorem wMX6_64 : ∀ x ∈ wsV RX6 64 (zRn 8) yX8_passTold [.code yX8_passTold cX8_passTold 3 (some .int)], x ∈ zT := (List.forall_mem_cons.mpr ⟨zT_3 (List.mem_of_getElem? (i := 178) rfl) rfl, (List.forall_mem_cons.mpr ⟨zT_3 (List.mem_of_getElem? (i := 42) rfl) rfl, (List.forall_mem_cons.mpr ⟨zT_3 (List.mem_of_getElem? (i := 43) rfl) rfl, (List.forall_mem_cons.mpr ⟨zT_1 (List.mem_of_getElem? (i := 2) rfl) rfl, (List.forall_mem_cons.mpr ⟨wcyX8_passTold, (fun _ h => absurd h List.not_mem_nil)⟩)⟩)⟩)⟩)⟩)
theorem wMX6_74 : ∀ x ∈ wsV RX6 74 (zRn 8) yX8_passSign [.code yX8_passSign cX8_passSign 2 none], x ∈ zT := (List.forall_mem_cons.mpr ⟨zT_3 (List.mem_of_getElem? (i := 179) rfl) rfl, (List.forall_mem_cons.mpr ⟨zT_3 (List.mem_of_getElem? (i := 25) rfl) rfl, (List.forall_mem_cons.mpr ⟨zT_3 (List.mem_of_getElem? (i := 26) rfl) rfl, (List.forall_mem_cons.mpr ⟨zT_1 (List.mem_of_getElem? (i := 2) rfl) rfl, (List.forall_mem_cons.mpr ⟨wcyX8_passSign, (fun _ h => absurd h List.not_mem_nil)⟩)⟩)⟩)⟩)⟩)
theorem wMX6_80 : ∀ x ∈ wsV RX6 80 (zRn 8) yX8_atWord [.code yX8_atWord cX8_atWord 3 (some .boolean)], x ∈ zT := (List.forall_mem_cons.mpr ⟨zT_3 (List.mem_of_getElem? (i := 172) rfl) rfl, (List.forall_mem_cons.mpr ⟨zT_2 (List.mem_of_getElem? (i := 205) rfl) rfl, (List.forall_mem_cons.mpr ⟨zT_2 (List.mem_of_getElem? (i := 206) rfl) rfl, (List.forall_mem_cons.mpr ⟨zT_1 (List.mem_of_getElem? (i := 2) rfl) rfl, (List.forall_mem_cons.mpr ⟨wcyX8_atWord, (fun _ h => absurd h List.not_mem_nil)⟩)⟩)⟩)⟩)⟩)
theorem wAX7_30 : Cond.methodLink RX7 30 arraycopyName ∈ zT := zT_2 (List.mem_of_getElem? (i := 98) rfl) rfl
theorem wMX7_42 : ∀ x ∈ wsV RX7 42 (zRn 7) yX7_rest [.code yX7_rest cX7_rest 2 none], x ∈ zT := (List.forall_mem_cons.mpr ⟨zT_2 (List.mem_of_getElem? (i := 101) rfl) rfl, (List.forall_mem_cons.mpr ⟨zT_2 (List.mem_of_getElem? (i := 103) rfl) rfl, (List.forall_mem_cons.mpr ⟨zT_s (List.mem_of_getElem? (i := 0) rfl) rfl, (List.forall_mem_cons.mpr ⟨zT_1 (List.mem_of_getElem? (i := 7) rfl) rfl, (List.forall_mem_cons.mpr ⟨wcyX7_rest, (fun _ h => absurd h List.not_mem_nil)⟩)⟩)⟩)⟩)⟩)
theorem wMX7_58 : ∀ x ∈ ([.static yX9_within, .initialized yX9_within.cls, .code yX9_within cX9_within 3 (some .boolean)] : List Cond), x ∈ zT := (List.forall_mem_cons.mpr ⟨zT_2 (List.mem_of_getElem? (i := 161) rfl) rfl, (List.forall_mem_cons.mpr ⟨zT_1 (List.mem_of_getElem? (i := 1) rfl) rfl, (List.forall_mem_cons.mpr ⟨wcyX9_within, (fun _ h => absurd h List.not_mem_nil)⟩)⟩)⟩)
theorem wMX7_65 : ∀ x ∈ ([.static yX9_bitsOf, .initialized yX9_bitsOf.cls, .code yX9_bitsOf cX9_bitsOf 5 (some .int)] : List Cond), x ∈ zT := (List.forall_mem_cons.mpr ⟨zT_3 (List.mem_of_getElem? (i := 189) rfl) rfl, (List.forall_mem_cons.mpr ⟨zT_1 (List.mem_of_getElem? (i := 1) rfl) rfl, (List.forall_mem_cons.mpr ⟨wcyX9_bitsOf, (fun _ h => absurd h List.not_mem_nil)⟩)⟩)⟩)
theorem wMX7_69 : ∀ x ∈ va_wsS RX7 69 yJ6_bitCount_0f7a4 [.code yJ6_bitCount_0f7a4 cJ6_bitCount_0f7a4 1 (some .int)], x ∈ zT := (List.forall_mem_cons.mpr ⟨zT_4 (List.mem_of_getElem? (i := 0) rfl) rfl, (List.forall_mem_cons.mpr ⟨zT_4 (List.mem_of_getElem? (i := 1) rfl) rfl, (List.forall_mem_cons.mpr ⟨zT_1 (List.mem_of_getElem? (i := 13) rfl) rfl, (List.forall_mem_cons.mpr ⟨wcyJ6_bitCount_0f7a4, (fun _ h => absurd h List.not_mem_nil)⟩)⟩)⟩)⟩)
theorem wMX7_78 : ∀ x ∈ wsV RX7 78 (zRn 0) yX0_isLinked [.code yX0_isLinked cX0_isLinked 3 (some .boolean)], x ∈ zT := (List.forall_mem_cons.mpr ⟨zT_4 (List.mem_of_getElem? (i := 25) rfl) rfl, (List.forall_mem_cons.mpr ⟨zT_3 (List.mem_of_getElem? (i := 48) rfl) rfl, (List.forall_mem_cons.mpr ⟨zT_3 (List.mem_of_getElem? (i := 49) rfl) rfl, (List.forall_mem_cons.mpr ⟨zT_1 (List.mem_of_getElem? (i := 3) rfl) rfl, (List.forall_mem_cons.mpr ⟨wcyX0_isLinked, (fun _ h => absurd h List.not_mem_nil)⟩)⟩)⟩)⟩)⟩)
theorem wMX7_91 : ∀ x ∈ va_wsS RX7 91 yX7_isServable [.code yX7_isServable cX7_isServable 2 (some .boolean)], x ∈ zT := (List.forall_mem_cons.mpr ⟨zT_4 (List.mem_of_getElem? (i := 38) rfl) rfl, (List.forall_mem_cons.mpr ⟨zT_4 (List.mem_of_getElem? (i := 39) rfl) rfl, (List.forall_mem_cons.mpr ⟨zT_1 (List.mem_of_getElem? (i := 7) rfl) rfl, (List.forall_mem_cons.mpr ⟨wcyX7_isServable, (fun _ h => absurd h List.not_mem_nil)⟩)⟩)⟩)⟩)
theorem wMX7_94 : ∀ x ∈ wsV RX7 94 (zRn 7) yX7_mayTake [.code yX7_mayTake cX7_mayTake 4 (some .boolean)], x ∈ zT := (List.forall_mem_cons.mpr ⟨zT_4 (List.mem_of_getElem? (i := 106) rfl) rfl, (List.forall_mem_cons.mpr ⟨zT_3 (List.mem_of_getElem? (i := 235) rfl) rfl, (List.forall_mem_cons.mpr ⟨zT_3 (List.mem_of_getElem? (i := 236) rfl) rfl, (List.forall_mem_cons.mpr ⟨zT_1 (List.mem_of_getElem? (i := 7) rfl) rfl, (List.forall_mem_cons.mpr ⟨wcyX7_mayTake, (fun _ h => absurd h List.not_mem_nil)⟩)⟩)⟩)⟩)⟩)
theorem wMX7_98 : ∀ x ∈ wsV RX7 98 (zRn 7) yX7_maySwim [.code yX7_maySwim cX7_maySwim 5 (some .boolean)], x ∈ zT := (List.forall_mem_cons.mpr ⟨zT_4 (List.mem_of_getElem? (i := 107) rfl) rfl, (List.forall_mem_cons.mpr ⟨zT_4 (List.mem_of_getElem? (i := 22) rfl) rfl, (List.forall_mem_cons.mpr ⟨zT_4 (List.mem_of_getElem? (i := 23) rfl) rfl, (List.forall_mem_cons.mpr ⟨zT_1 (List.mem_of_getElem? (i := 7) rfl) rfl, (List.forall_mem_cons.mpr ⟨wcyX7_maySwim, (fun _ h => absurd h List.not_mem_nil)⟩)⟩)⟩)⟩)⟩)
theorem wMX7_101 : ∀ x ∈ wsV RX7 101 (zRn 7) yX7_doSwim [.code yX7_doSwim cX7_doSwim 3 none], x ∈ zT := (List.forall_mem_cons.mpr ⟨zT_4 (List.mem_of_getElem? (i := 108) rfl) rfl, (List.forall_mem_cons.mpr ⟨zT_4 (List.mem_of_getElem? (i := 27) rfl) rfl, (List.forall_mem_cons.mpr ⟨zT_4 (List.mem_of_getElem? (i := 28) rfl) rfl, (List.forall_mem_cons.mpr ⟨zT_1 (List.mem_of_getElem? (i := 7) rfl) rfl, (List.forall_mem_cons.mpr ⟨wcyX7_doSwim, (fun _ h => absurd h List.not_mem_nil)⟩)⟩)⟩)⟩)⟩)
theorem wMX7_105 : ∀ x ∈ wsV RX7 105 (zRn 7) yX7_mayServe [.code yX7_mayServe cX7_mayServe 5 (some .boolean)], x ∈ zT := (List.forall_mem_cons.mpr ⟨zT_4 (List.mem_of_getElem? (i := 109) rfl) rfl, (List.forall_mem_cons.mpr ⟨zT_4 (List.mem_of_getElem? (i := 35) rfl) rfl, (List.forall_mem_cons.mpr ⟨zT_4 (List.mem_of_getElem? (i := 36) rfl) rfl, (List.forall_mem_cons.mpr ⟨zT_1 (List.mem_of_getElem? (i := 7) rfl) rfl, (List.forall_mem_cons.mpr ⟨wcyX7_mayServe, (fun _ h => absurd h List.not_mem_nil)⟩)⟩)⟩)⟩)⟩)
theorem wMX7_109 : ∀ x ∈ wsV RX7 109 (zRn 7) yX7_nextDay [.code yX7_nextDay cX7_nextDay 4 none], x ∈ zT := (List.forall_mem_cons.mpr ⟨zT_4 (List.mem_of_getElem? (i := 110) rfl) rfl, (List.forall_mem_cons.mpr ⟨zT_4 (List.mem_of_getElem? (i := 46) rfl) rfl, (List.forall_mem_cons.mpr ⟨zT_4 (List.mem_of_getElem? (i := 47) rfl) rfl, (List.forall_mem_cons.mpr ⟨zT_1 (List.mem_of_getElem? (i := 7) rfl) rfl, (List.forall_mem_cons.mpr ⟨wcyX7_nextDay, (fun _ h => absurd h List.not_mem_nil)⟩)⟩)⟩)⟩)⟩)
theorem wMX7_113 : ∀ x ∈ wsV RX7 113 (zRn 0) yX0_rainOf [.code yX0_rainOf cX0_rainOf 2 (some .int)], x ∈ zT := (List.forall_mem_cons.mpr ⟨zT_4 (List.mem_of_getElem? (i := 49) rfl) rfl, (List.forall_mem_cons.mpr ⟨zT_3 (List.mem_of_getElem? (i := 220) rfl) rfl, (List.forall_mem_cons.mpr ⟨zT_3 (List.mem_of_getElem? (i := 221) rfl) rfl, (List.forall_mem_cons.mpr ⟨zT_1 (List.mem_of_getElem? (i := 3) rfl) rfl, (List.forall_mem_cons.mpr ⟨wcyX0_rainOf, (fun _ h => absurd h List.not_mem_nil)⟩)⟩)⟩)⟩)⟩)
theorem wMX7_116 : ∀ x ∈ wsV RX7 116 (zRn 0) yX0_waterBehind [.code yX0_waterBehind cX0_waterBehind 6 (some .int)], x ∈ zT := (List.forall_mem_cons.mpr ⟨zT_4 (List.mem_of_getElem? (i := 50) rfl) rfl, (List.forall_mem_cons.mpr ⟨zT_4 (List.mem_of_getElem? (i := 51) rfl) rfl, (List.forall_mem_cons.mpr ⟨zT_4 (List.mem_of_getElem? (i := 52) rfl) rfl, (List.forall_mem_cons.mpr ⟨zT_1 (List.mem_of_getElem? (i := 3) rfl) rfl, (List.forall_mem_cons.mpr ⟨wcyX0_waterBehind, (fun _ h => absurd h List.not_mem_nil)⟩)⟩)⟩)⟩)⟩)
theorem wMX7_123 : ∀ x ∈ wsV RX7 123 (zRn 7) yX7_bestPlace [.code yX7_bestPlace cX7_bestPlace 6 (some .int)], x ∈ zT := (List.forall_mem_cons.mpr ⟨zT_4 (List.mem_of_getElem? (i := 69) rfl) rfl, (List.forall_mem_cons.mpr ⟨zT_4 (List.mem_of_getElem? (i := 71) rfl) rfl, (List.forall_mem_cons.mpr ⟨zT_s (List.mem_of_getElem? (i := 29) rfl) rfl, (List.forall_mem_cons.mpr ⟨zT_1 (List.mem_of_getElem? (i := 7) rfl) rfl, (List.forall_mem_cons.mpr ⟨wcyX7_bestPlace, (fun _ h => absurd h List.not_mem_nil)⟩)⟩)⟩)⟩)⟩)
theorem wMX8_17 : ∀ x ∈ ([.static yX9_within, .initialized yX9_within.cls, .code yX9_within cX9_within 3 (some .boolean)] : List Cond), x ∈ zT := (List.forall_mem_cons.mpr ⟨zT_2 (List.mem_of_getElem? (i := 161) rfl) rfl, (List.forall_mem_cons.mpr ⟨zT_1 (List.mem_of_getElem? (i := 1) rfl) rfl, (List.forall_mem_cons.mpr ⟨wcyX9_within, (fun _ h => absurd h List.not_mem_nil)⟩)⟩)⟩)
theorem wMX8_31 : ∀ x ∈ wsV RX8 31 (zRn 8) yX8_step [.code yX8_step cX8_step 1 none], x ∈ zT := (List.forall_mem_cons.mpr ⟨zT_2 (List.mem_of_getElem? (i := 179) rfl) rfl, (List.forall_mem_cons.mpr ⟨zT_2 (List.mem_of_getElem? (i := 180) rfl) rfl, (List.forall_mem_cons.mpr ⟨zT_2 (List.mem_of_getElem? (i := 181) rfl) rfl, (List.forall_mem_cons.mpr ⟨zT_1 (List.mem_of_getElem? (i := 2) rfl) rfl, (List.forall_mem_cons.mpr ⟨wcyX8_step, (fun _ h => absurd h List.not_mem_nil)⟩)⟩)⟩)⟩)⟩)
theorem wMX8_37 : ∀ x ∈ wsV RX8 37 (zRn 8) yX8_failAt [.code yX8_failAt cX8_failAt 3 none], x ∈ zT := (List.forall_mem_cons.mpr ⟨zT_2 (List.mem_of_getElem? (i := 223) rfl) rfl, (List.forall_mem_cons.mpr ⟨zT_2 (List.mem_of_getElem? (i := 224) rfl) rfl, (List.forall_mem_cons.mpr ⟨zT_2 (List.mem_of_getElem? (i := 225) rfl) rfl, (List.forall_mem_cons.mpr ⟨zT_1 (List.mem_of_getElem? (i := 2) rfl) rfl, (List.forall_mem_cons.mpr ⟨wcyX8_failAt, (fun _ h => absurd h List.not_mem_nil)⟩)⟩)⟩)⟩)⟩)
theorem wMX8_48 : ∀ x ∈ wsV RX8 48 (zRn 8) yX8_readWord [.code yX8_readWord cX8_readWord 1 none], x ∈ zT := (List.forall_mem_cons.mpr ⟨zT_2 (List.mem_of_getElem? (i := 183) rfl) rfl, (List.forall_mem_cons.mpr ⟨zT_2 (List.mem_of_getElem? (i := 185) rfl) rfl, (List.forall_mem_cons.mpr ⟨zT_s (List.mem_of_getElem? (i := 2) rfl) rfl, (List.forall_mem_cons.mpr ⟨zT_1 (List.mem_of_getElem? (i := 2) rfl) rfl, (List.forall_mem_cons.mpr ⟨wcyX8_readWord, (fun _ h => absurd h List.not_mem_nil)⟩)⟩)⟩)⟩)⟩)
theorem wMX8_51 : ∀ x ∈ wsV RX8 51 (zRn 8) yX8_readNumber [.code yX8_readNumber cX8_readNumber 1 none], x ∈ zT := (List.forall_mem_cons.mpr ⟨zT_2 (List.mem_of_getElem? (i := 187) rfl) rfl, (List.forall_mem_cons.mpr ⟨zT_2 (List.mem_of_getElem? (i := 189) rfl) rfl, (List.forall_mem_cons.mpr ⟨zT_s (List.mem_of_getElem? (i := 3) rfl) rfl, (List.forall_mem_cons.mpr ⟨zT_1 (List.mem_of_getElem? (i := 2) rfl) rfl, (List.forall_mem_cons.mpr ⟨wcyX8_readNumber, (fun _ h => absurd h List.not_mem_nil)⟩)⟩)⟩)⟩)⟩)
theorem wMX8_54 : ∀ x ∈ va_wsS RX8 54 yX8_isSign [.code yX8_isSign cX8_isSign 1 (some .boolean)], x ∈ zT := (List.forall_mem_cons.mpr ⟨zT_2 (List.mem_of_getElem? (i := 192) rfl) rfl, (List.forall_mem_cons.mpr ⟨zT_2 (List.mem_of_getElem? (i := 193) rfl) rfl, (List.forall_mem_cons.mpr ⟨zT_1 (List.mem_of_getElem? (i := 2) rfl) rfl, (List.forall_mem_cons.mpr ⟨wcyX8_isSign, (fun _ h => absurd h List.not_mem_nil)⟩)⟩)⟩)⟩)
theorem wMX8_60 : ∀ x ∈ va_wsS RX8 60 yX8_isKept [.code yX8_isKept cX8_isKept 3 (some .boolean)], x ∈ zT := (List.forall_mem_cons.mpr ⟨zT_2 (List.mem_of_getElem? (i := 236) rfl) rfl, (List.forall_mem_cons.mpr ⟨zT_2 (List.mem_of_getElem? (i := 237) rfl) rfl, (List.forall_mem_cons.mpr ⟨zT_1 (List.mem_of_getElem? (i := 2) rfl) rfl, (List.forall_mem_cons.mpr ⟨wcyX8_isKept, (fun _ h => absurd h List.not_mem_nil)⟩)⟩)⟩)⟩)
theorem wMX8_64 : ∀ x ∈ wsV RX8 64 (zRn 8) yX8_fail [.code yX8_fail cX8_fail 2 none], x ∈ zT := (List.forall_mem_cons.mpr ⟨zT_3 (List.mem_of_getElem? (i := 1) rfl) rfl, (List.forall_mem_cons.mpr ⟨zT_2 (List.mem_of_getElem? (i := 220) rfl) rfl, (List.forall_mem_cons.mpr ⟨zT_2 (List.mem_of_getElem? (i := 221) rfl) rfl, (List.forall_mem_cons.mpr ⟨zT_1 (List.mem_of_getElem? (i := 2) rfl) rfl, (List.forall_mem_cons.mpr ⟨wcyX8_fail, (fun _ h => absurd h List.not_mem_nil)⟩)⟩)⟩)⟩)⟩)
theorem wMX8_72 : ∀ x ∈ wsV RX8 72 (zRn 8) yX8_atWord [.code yX8_atWord cX8_atWord 3 (some .boolean)], x ∈ zT := (List.forall_mem_cons.mpr ⟨zT_3 (List.mem_of_getElem? (i := 15) rfl) rfl, (List.forall_mem_cons.mpr ⟨zT_2 (List.mem_of_getElem? (i := 205) rfl) rfl, (List.forall_mem_cons.mpr ⟨zT_2 (List.mem_of_getElem? (i := 206) rfl) rfl, (List.forall_mem_cons.mpr ⟨zT_1 (List.mem_of_getElem? (i := 2) rfl) rfl, (List.forall_mem_cons.mpr ⟨wcyX8_atWord, (fun _ h => absurd h List.not_mem_nil)⟩)⟩)⟩)⟩)⟩)
theorem wMX8_75 : ∀ x ∈ wsV RX8 75 (zRn 8) yX8_atSign [.code yX8_atSign cX8_atSign 2 (some .boolean)], x ∈ zT := (List.forall_mem_cons.mpr ⟨zT_3 (List.mem_of_getElem? (i := 28) rfl) rfl, (List.forall_mem_cons.mpr ⟨zT_3 (List.mem_of_getElem? (i := 29) rfl) rfl, (List.forall_mem_cons.mpr ⟨zT_3 (List.mem_of_getElem? (i := 30) rfl) rfl, (List.forall_mem_cons.mpr ⟨zT_1 (List.mem_of_getElem? (i := 2) rfl) rfl, (List.forall_mem_cons.mpr ⟨wcyX8_atSign, (fun _ h => absurd h List.not_mem_nil)⟩)⟩)⟩)⟩)⟩)
theorem wMX8_79 : ∀ x ∈ wsV RX8 79 (zRn 8) yX8_atNumber [.code yX8_atNumber cX8_atNumber 1 (some .boolean)], x ∈ zT := (List.forall_mem_cons.mpr ⟨zT_3 (List.mem_of_getElem? (i := 20) rfl) rfl, (List.forall_mem_cons.mpr ⟨zT_3 (List.mem_of_getElem? (i := 21) rfl) rfl, (List.forall_mem_cons.mpr ⟨zT_3 (List.mem_of_getElem? (i := 22) rfl) rfl, (List.forall_mem_cons.mpr ⟨zT_1 (List.mem_of_getElem? (i := 2) rfl) rfl, (List.forall_mem_cons.mpr ⟨wcyX8_atNumber, (fun _ h => absurd h List.not_mem_nil)⟩)⟩)⟩)⟩)⟩)
theorem wMX8_83 : ∀ x ∈ wsV RX8 83 (zRn 8) yX8_atName [.code yX8_atName cX8_atName 1 (some .boolean)], x ∈ zT := (List.forall_mem_cons.mpr ⟨zT_3 (List.mem_of_getElem? (i := 45) rfl) rfl, (List.forall_mem_cons.mpr ⟨zT_2 (List.mem_of_getElem? (i := 233) rfl) rfl, (List.forall_mem_cons.mpr ⟨zT_2 (List.mem_of_getElem? (i := 234) rfl) rfl, (List.forall_mem_cons.mpr ⟨zT_1 (List.mem_of_getElem? (i := 2) rfl) rfl, (List.forall_mem_cons.mpr ⟨wcyX8_atName, (fun _ h => absurd h List.not_mem_nil)⟩)⟩)⟩)⟩)⟩)
theorem wMX8_86 : ∀ x ∈ wsV RX8 86 (zRn 3) yX3_find [.code yX3_find cX3_find 4 (some .int)], x ∈ zT := (List.forall_mem_cons.mpr ⟨zT_3 (List.mem_of_getElem? (i := 46) rfl) rfl, (List.forall_mem_cons.mpr ⟨zT_3 (List.mem_of_getElem? (i := 7) rfl) rfl, (List.forall_mem_cons.mpr ⟨zT_3 (List.mem_of_getElem? (i := 8) rfl) rfl, (List.forall_mem_cons.mpr ⟨zT_1 (List.mem_of_getElem? (i := 4) rfl) rfl, (List.forall_mem_cons.mpr ⟨wcyX3_find, (fun _ h => absurd h List.not_mem_nil)⟩)⟩)⟩)⟩)⟩)
theorem wMX10_159 : ∀ x ∈ wsV RX10 159 (zRn 10) yX10_fresh0 [.code yX10_fresh0 cX10_fresh0 2 none], x ∈ zT := (List.forall_mem_cons.mpr ⟨zT_5 (List.mem_of_getElem? (i := 185) rfl) rfl, (List.forall_mem_cons.mpr ⟨zT_5 (List.mem_of_getElem? (i := 187) rfl) rfl, (List.forall_mem_cons.mpr ⟨zT_s (List.mem_of_getElem? (i := 42) rfl) rfl, (List.forall_mem_cons.mpr ⟨zT_1 (List.mem_of_getElem? (i := 12) rfl) rfl, (List.forall_mem_cons.mpr ⟨wcyX10_fresh0, (fun _ h => absurd h List.not_mem_nil)⟩)⟩)⟩)⟩)⟩)
theorem wMX10_190 : ∀ x ∈ wsV RX10 190 (zRn 10) yX10_signAt [.code yX10_signAt cX10_signAt 2 (some .int)], x ∈ zT := (List.forall_mem_cons.mpr ⟨zT_6 (List.mem_of_getElem? (i := 176) rfl) rfl, (List.forall_mem_cons.mpr ⟨zT_6 (List.mem_of_getElem? (i := 178) rfl) rfl, (List.forall_mem_cons.mpr ⟨zT_s (List.mem_of_getElem? (i := 46) rfl) rfl, (List.forall_mem_cons.mpr ⟨zT_1 (List.mem_of_getElem? (i := 12) rfl) rfl, (List.forall_mem_cons.mpr ⟨wcyX10_signAt, (fun _ h => absurd h List.not_mem_nil)⟩)⟩)⟩)⟩)⟩)
theorem wMX10_212 : ∀ x ∈ wsV RX10 212 (zRn 10) yX10_fact [.code yX10_fact cX10_fact 1 (some .int)], x ∈ zT := (List.forall_mem_cons.mpr ⟨zT_7 (List.mem_of_getElem? (i := 64) rfl) rfl, (List.forall_mem_cons.mpr ⟨zT_7 (List.mem_of_getElem? (i := 66) rfl) rfl, (List.forall_mem_cons.mpr ⟨zT_s (List.mem_of_getElem? (i := 71) rfl) rfl, (List.forall_mem_cons.mpr ⟨zT_1 (List.mem_of_getElem? (i := 12) rfl) rfl, (List.forall_mem_cons.mpr ⟨wcyX10_fact, (fun _ h => absurd h List.not_mem_nil)⟩)⟩)⟩)⟩)⟩)
theorem wMX10_218 : ∀ x ∈ wsV RX10 218 (zRn 10) yX10_isWord [.code yX10_isWord cX10_isWord 3 (some .boolean)], x ∈ zT := (List.forall_mem_cons.mpr ⟨zT_6 (List.mem_of_getElem? (i := 183) rfl) rfl, (List.forall_mem_cons.mpr ⟨zT_6 (List.mem_of_getElem? (i := 185) rfl) rfl, (List.forall_mem_cons.mpr ⟨zT_s (List.mem_of_getElem? (i := 47) rfl) rfl, (List.forall_mem_cons.mpr ⟨zT_1 (List.mem_of_getElem? (i := 12) rfl) rfl, (List.forall_mem_cons.mpr ⟨wcyX10_isWord, (fun _ h => absurd h List.not_mem_nil)⟩)⟩)⟩)⟩)⟩)
theorem wMX10_222 : ∀ x ∈ wsV RX10 222 (zRn 10) yX10_isSign [.code yX10_isSign cX10_isSign 2 (some .boolean)], x ∈ zT := (List.forall_mem_cons.mpr ⟨zT_7 (List.mem_of_getElem? (i := 24) rfl) rfl, (List.forall_mem_cons.mpr ⟨zT_7 (List.mem_of_getElem? (i := 26) rfl) rfl, (List.forall_mem_cons.mpr ⟨zT_s (List.mem_of_getElem? (i := 61) rfl) rfl, (List.forall_mem_cons.mpr ⟨zT_1 (List.mem_of_getElem? (i := 12) rfl) rfl, (List.forall_mem_cons.mpr ⟨wcyX10_isSign, (fun _ h => absurd h List.not_mem_nil)⟩)⟩)⟩)⟩)⟩)
theorem wMX10_226 : ∀ x ∈ wsV RX10 226 (zRn 10) yX10_fails [.code yX10_fails cX10_fails 2 (some .boolean)], x ∈ zT := (List.forall_mem_cons.mpr ⟨zT_6 (List.mem_of_getElem? (i := 191) rfl) rfl, (List.forall_mem_cons.mpr ⟨zT_6 (List.mem_of_getElem? (i := 193) rfl) rfl, (List.forall_mem_cons.mpr ⟨zT_s (List.mem_of_getElem? (i := 49) rfl) rfl, (List.forall_mem_cons.mpr ⟨zT_1 (List.mem_of_getElem? (i := 12) rfl) rfl, (List.forall_mem_cons.mpr ⟨wcyX10_fails, (fun _ h => absurd h List.not_mem_nil)⟩)⟩)⟩)⟩)⟩)
theorem wMX10_229 : ∀ x ∈ wsV RX10 229 (zRn 10) yX10_puts [.code yX10_puts cX10_puts 2 none], x ∈ zT := (List.forall_mem_cons.mpr ⟨zT_7 (List.mem_of_getElem? (i := 72) rfl) rfl, (List.forall_mem_cons.mpr ⟨zT_7 (List.mem_of_getElem? (i := 74) rfl) rfl, (List.forall_mem_cons.mpr ⟨zT_s (List.mem_of_getElem? (i := 72) rfl) rfl, (List.forall_mem_cons.mpr ⟨zT_1 (List.mem_of_getElem? (i := 12) rfl) rfl, (List.forall_mem_cons.mpr ⟨wcyX10_puts, (fun _ h => absurd h List.not_mem_nil)⟩)⟩)⟩)⟩)⟩)
theorem wMX10_233 : ∀ x ∈ wsV RX10 233 (zRn 10) yX10_nextToken [.code yX10_nextToken cX10_nextToken 2 none], x ∈ zT := (List.forall_mem_cons.mpr ⟨zT_6 (List.mem_of_getElem? (i := 172) rfl) rfl, (List.forall_mem_cons.mpr ⟨zT_6 (List.mem_of_getElem? (i := 174) rfl) rfl, (List.forall_mem_cons.mpr ⟨zT_s (List.mem_of_getElem? (i := 45) rfl) rfl, (List.forall_mem_cons.mpr ⟨zT_1 (List.mem_of_getElem? (i := 12) rfl) rfl, (List.forall_mem_cons.mpr ⟨wcyX10_nextToken, (fun _ h => absurd h List.not_mem_nil)⟩)⟩)⟩)⟩)⟩)
theorem wMX10_240 : ∀ x ∈ wsV RX10 240 (zRn 10) yX10_sums [.code yX10_sums cX10_sums 2 none], x ∈ zT := (List.forall_mem_cons.mpr ⟨zT_7 (List.mem_of_getElem? (i := 212) rfl) rfl, (List.forall_mem_cons.mpr ⟨zT_7 (List.mem_of_getElem? (i := 214) rfl) rfl, (List.forall_mem_cons.mpr ⟨zT_s (List.mem_of_getElem? (i := 95) rfl) rfl, (List.forall_mem_cons.mpr ⟨zT_1 (List.mem_of_getElem? (i := 12) rfl) rfl, (List.forall_mem_cons.mpr ⟨wcyX10_sums, (fun _ h => absurd h List.not_mem_nil)⟩)⟩)⟩)⟩)⟩)
theorem wMX10_243 : ∀ x ∈ wsV RX10 243 (zRn 10) yX10_opens [.code yX10_opens cX10_opens 2 none], x ∈ zT := (List.forall_mem_cons.mpr ⟨zT_7 (List.mem_of_getElem? (i := 208) rfl) rfl, (List.forall_mem_cons.mpr ⟨zT_7 (List.mem_of_getElem? (i := 210) rfl) rfl, (List.forall_mem_cons.mpr ⟨zT_s (List.mem_of_getElem? (i := 94) rfl) rfl, (List.forall_mem_cons.mpr ⟨zT_1 (List.mem_of_getElem? (i := 12) rfl) rfl, (List.forall_mem_cons.mpr ⟨wcyX10_opens, (fun _ h => absurd h List.not_mem_nil)⟩)⟩)⟩)⟩)⟩)
theorem wMX10_246 : ∀ x ∈ wsV RX10 246 (zRn 10) yX10_tests [.code yX10_tests cX10_tests 3 none], x ∈ zT := (List.forall_mem_cons.mpr ⟨zT_7 (List.mem_of_getElem? (i := 216) rfl) rfl, (List.forall_mem_cons.mpr ⟨zT_7 (List.mem_of_getElem? (i := 218) rfl) rfl, (List.forall_mem_cons.mpr ⟨zT_s (List.mem_of_getElem? (i := 96) rfl) rfl, (List.forall_mem_cons.mpr ⟨zT_1 (List.mem_of_getElem? (i := 12) rfl) rfl, (List.forall_mem_cons.mpr ⟨wcyX10_tests, (fun _ h => absurd h List.not_mem_nil)⟩)⟩)⟩)⟩)⟩)
theorem wMX10_289 : ∀ x ∈ wsV RX10 289 (zRn 10) yX10_namedIn [.code yX10_namedIn cX10_namedIn 5 (some .int)], x ∈ zT := (List.forall_mem_cons.mpr ⟨zT_6 (List.mem_of_getElem? (i := 229) rfl) rfl, (List.forall_mem_cons.mpr ⟨zT_6 (List.mem_of_getElem? (i := 231) rfl) rfl, (List.forall_mem_cons.mpr ⟨zT_s (List.mem_of_getElem? (i := 53) rfl) rfl, (List.forall_mem_cons.mpr ⟨zT_1 (List.mem_of_getElem? (i := 12) rfl) rfl, (List.forall_mem_cons.mpr ⟨wcyX10_namedIn, (fun _ h => absurd h List.not_mem_nil)⟩)⟩)⟩)⟩)⟩)
theorem wMX10_293 : ∀ x ∈ va_wsS RX10 293 yX10_within [.code yX10_within cX10_within 3 (some .boolean)], x ∈ zT := (List.forall_mem_cons.mpr ⟨zT_7 (List.mem_of_getElem? (i := 17) rfl) rfl, (List.forall_mem_cons.mpr ⟨zT_7 (List.mem_of_getElem? (i := 18) rfl) rfl, (List.forall_mem_cons.mpr ⟨zT_1 (List.mem_of_getElem? (i := 12) rfl) rfl, (List.forall_mem_cons.mpr ⟨wcyX10_within, (fun _ h => absurd h List.not_mem_nil)⟩)⟩)⟩)⟩)
theorem wMX10_300 : ∀ x ∈ wsV RX10 300 (zRn 10) yX10_needsWord [.code yX10_needsWord cX10_needsWord 3 (some .boolean)], x ∈ zT := (List.forall_mem_cons.mpr ⟨zT_7 (List.mem_of_getElem? (i := 9) rfl) rfl, (List.forall_mem_cons.mpr ⟨zT_7 (List.mem_of_getElem? (i := 11) rfl) rfl, (List.forall_mem_cons.mpr ⟨zT_s (List.mem_of_getElem? (i := 58) rfl) rfl, (List.forall_mem_cons.mpr ⟨zT_1 (List.mem_of_getElem? (i := 12) rfl) rfl, (List.forall_mem_cons.mpr ⟨wcyX10_needsWord, (fun _ h => absurd h List.not_mem_nil)⟩)⟩)⟩)⟩)⟩)
theorem wMX10_303 : ∀ x ∈ wsV RX10 303 (zRn 10) yX10_needsNumber [.code yX10_needsNumber cX10_needsNumber 3 (some .boolean)], x ∈ zT := (List.forall_mem_cons.mpr ⟨zT_7 (List.mem_of_getElem? (i := 13) rfl) rfl, (List.forall_mem_cons.mpr ⟨zT_7 (List.mem_of_getElem? (i := 15) rfl) rfl, (List.forall_mem_cons.mpr ⟨zT_s (List.mem_of_getElem? (i := 59) rfl) rfl, (List.forall_mem_cons.mpr ⟨zT_1 (List.mem_of_getElem? (i := 12) rfl) rfl, (List.forall_mem_cons.mpr ⟨wcyX10_needsNumber, (fun _ h => absurd h List.not_mem_nil)⟩)⟩)⟩)⟩)⟩)
theorem wMX10_307 : ∀ x ∈ wsV RX10 307 (zRn 10) yX10_isKept [.code yX10_isKept cX10_isKept 1 (some .boolean)], x ∈ zT := (List.forall_mem_cons.mpr ⟨zT_6 (List.mem_of_getElem? (i := 199) rfl) rfl, (List.forall_mem_cons.mpr ⟨zT_6 (List.mem_of_getElem? (i := 201) rfl) rfl, (List.forall_mem_cons.mpr ⟨zT_s (List.mem_of_getElem? (i := 51) rfl) rfl, (List.forall_mem_cons.mpr ⟨zT_1 (List.mem_of_getElem? (i := 12) rfl) rfl, (List.forall_mem_cons.mpr ⟨wcyX10_isKept, (fun _ h => absurd h List.not_mem_nil)⟩)⟩)⟩)⟩)⟩)
theorem wMX10_311 : ∀ x ∈ wsV RX10 311 (zRn 10) yX10_placeNamed [.code yX10_placeNamed cX10_placeNamed 2 (some .int)], x ∈ zT := (List.forall_mem_cons.mpr ⟨zT_6 (List.mem_of_getElem? (i := 225) rfl) rfl, (List.forall_mem_cons.mpr ⟨zT_6 (List.mem_of_getElem? (i := 227) rfl) rfl, (List.forall_mem_cons.mpr ⟨zT_s (List.mem_of_getElem? (i := 52) rfl) rfl, (List.forall_mem_cons.mpr ⟨zT_1 (List.mem_of_getElem? (i := 12) rfl) rfl, (List.forall_mem_cons.mpr ⟨wcyX10_placeNamed, (fun _ h => absurd h List.not_mem_nil)⟩)⟩)⟩)⟩)⟩)
theorem wMX10_314 : ∀ x ∈ wsV RX10 314 (zRn 10) yX10_personNamed [.code yX10_personNamed cX10_personNamed 2 (some .int)], x ∈ zT := (List.forall_mem_cons.mpr ⟨zT_6 (List.mem_of_getElem? (i := 233) rfl) rfl, (List.forall_mem_cons.mpr ⟨zT_6 (List.mem_of_getElem? (i := 235) rfl) rfl, (List.forall_mem_cons.mpr ⟨zT_s (List.mem_of_getElem? (i := 54) rfl) rfl, (List.forall_mem_cons.mpr ⟨zT_1 (List.mem_of_getElem? (i := 12) rfl) rfl, (List.forall_mem_cons.mpr ⟨wcyX10_personNamed, (fun _ h => absurd h List.not_mem_nil)⟩)⟩)⟩)⟩)⟩)
theorem wMX10_317 : ∀ x ∈ wsV RX10 317 (zRn 10) yX10_otterNamed [.code yX10_otterNamed cX10_otterNamed 2 (some .int)], x ∈ zT := (List.forall_mem_cons.mpr ⟨zT_6 (List.mem_of_getElem? (i := 237) rfl) rfl, (List.forall_mem_cons.mpr ⟨zT_6 (List.mem_of_getElem? (i := 239) rfl) rfl, (List.forall_mem_cons.mpr ⟨zT_s (List.mem_of_getElem? (i := 55) rfl) rfl, (List.forall_mem_cons.mpr ⟨zT_1 (List.mem_of_getElem? (i := 12) rfl) rfl, (List.forall_mem_cons.mpr ⟨wcyX10_otterNamed, (fun _ h => absurd h List.not_mem_nil)⟩)⟩)⟩)⟩)⟩)
theorem wMX10_320 : ∀ x ∈ wsV RX10 320 (zRn 10) yX10_writNamed [.code yX10_writNamed cX10_writNamed 2 (some .int)], x ∈ zT := (List.forall_mem_cons.mpr ⟨zT_7 (List.mem_of_getElem? (i := 1) rfl) rfl, (List.forall_mem_cons.mpr ⟨zT_7 (List.mem_of_getElem? (i := 3) rfl) rfl, (List.forall_mem_cons.mpr ⟨zT_s (List.mem_of_getElem? (i := 56) rfl) rfl, (List.forall_mem_cons.mpr ⟨zT_1 (List.mem_of_getElem? (i := 12) rfl) rfl, (List.forall_mem_cons.mpr ⟨wcyX10_writNamed, (fun _ h => absurd h List.not_mem_nil)⟩)⟩)⟩)⟩)⟩)
theorem wMX10_326 : ∀ x ∈ wsV RX10 326 (zRn 10) yX10_isFound [.code yX10_isFound cX10_isFound 2 (some .boolean)], x ∈ zT := (List.forall_mem_cons.mpr ⟨zT_7 (List.mem_of_getElem? (i := 36) rfl) rfl, (List.forall_mem_cons.mpr ⟨zT_7 (List.mem_of_getElem? (i := 38) rfl) rfl, (List.forall_mem_cons.mpr ⟨zT_s (List.mem_of_getElem? (i := 64) rfl) rfl, (List.forall_mem_cons.mpr ⟨zT_1 (List.mem_of_getElem? (i := 12) rfl) rfl, (List.forall_mem_cons.mpr ⟨wcyX10_isFound, (fun _ h => absurd h List.not_mem_nil)⟩)⟩)⟩)⟩)⟩)
theorem wMX10_329 : ∀ x ∈ wsV RX10 329 (zRn 10) yX10_needsNew [.code yX10_needsNew cX10_needsNew 1 (some .boolean)], x ∈ zT := (List.forall_mem_cons.mpr ⟨zT_6 (List.mem_of_getElem? (i := 195) rfl) rfl, (List.forall_mem_cons.mpr ⟨zT_6 (List.mem_of_getElem? (i := 197) rfl) rfl, (List.forall_mem_cons.mpr ⟨zT_s (List.mem_of_getElem? (i := 50) rfl) rfl, (List.forall_mem_cons.mpr ⟨zT_1 (List.mem_of_getElem? (i := 12) rfl) rfl, (List.forall_mem_cons.mpr ⟨wcyX10_needsNew, (fun _ h => absurd h List.not_mem_nil)⟩)⟩)⟩)⟩)⟩)
theorem wMX10_332 : ∀ x ∈ wsV RX10 332 (zRn 10) yX10_needsBoth [.code yX10_needsBoth cX10_needsBoth 5 (some .boolean)], x ∈ zT := (List.forall_mem_cons.mpr ⟨zT_7 (List.mem_of_getElem? (i := 5) rfl) rfl, (List.forall_mem_cons.mpr ⟨zT_7 (List.mem_of_getElem? (i := 7) rfl) rfl, (List.forall_mem_cons.mpr ⟨zT_s (List.mem_of_getElem? (i := 57) rfl) rfl, (List.forall_mem_cons.mpr ⟨zT_1 (List.mem_of_getElem? (i := 12) rfl) rfl, (List.forall_mem_cons.mpr ⟨wcyX10_needsBoth, (fun _ h => absurd h List.not_mem_nil)⟩)⟩)⟩)⟩)⟩)
theorem wMX10_336 : ∀ x ∈ wsV RX10 336 (zRn 10) yX10_closes [.code yX10_closes cX10_closes 1 (some .boolean)], x ∈ zT := (List.forall_mem_cons.mpr ⟨zT_7 (List.mem_of_getElem? (i := 20) rfl) rfl, (List.forall_mem_cons.mpr ⟨zT_7 (List.mem_of_getElem? (i := 22) rfl) rfl, (List.forall_mem_cons.mpr ⟨zT_s (List.mem_of_getElem? (i := 60) rfl) rfl, (List.forall_mem_cons.mpr ⟨zT_1 (List.mem_of_getElem? (i := 12) rfl) rfl, (List.forall_mem_cons.mpr ⟨wcyX10_closes, (fun _ h => absurd h List.not_mem_nil)⟩)⟩)⟩)⟩)⟩)
theorem wMX10_339 : ∀ x ∈ wsV RX10 339 (zRn 10) yX10_passesFound [.code yX10_passesFound cX10_passesFound 2 (some .boolean)], x ∈ zT := (List.forall_mem_cons.mpr ⟨zT_7 (List.mem_of_getElem? (i := 32) rfl) rfl, (List.forall_mem_cons.mpr ⟨zT_7 (List.mem_of_getElem? (i := 34) rfl) rfl, (List.forall_mem_cons.mpr ⟨zT_s (List.mem_of_getElem? (i := 63) rfl) rfl, (List.forall_mem_cons.mpr ⟨zT_1 (List.mem_of_getElem? (i := 12) rfl) rfl, (List.forall_mem_cons.mpr ⟨wcyX10_passesFound, (fun _ h => absurd h List.not_mem_nil)⟩)⟩)⟩)⟩)⟩)
theorem wMX10_342 : ∀ x ∈ wsV RX10 342 (zRn 10) yX10_reads [.code yX10_reads cX10_reads 6 (some .boolean)], x ∈ zT := (List.forall_mem_cons.mpr ⟨zT_7 (List.mem_of_getElem? (i := 60) rfl) rfl, (List.forall_mem_cons.mpr ⟨zT_7 (List.mem_of_getElem? (i := 62) rfl) rfl, (List.forall_mem_cons.mpr ⟨zT_s (List.mem_of_getElem? (i := 70) rfl) rfl, (List.forall_mem_cons.mpr ⟨zT_1 (List.mem_of_getElem? (i := 12) rfl) rfl, (List.forall_mem_cons.mpr ⟨wcyX10_reads, (fun _ h => absurd h List.not_mem_nil)⟩)⟩)⟩)⟩)⟩)
theorem wMX10_345 : ∀ x ∈ wsV RX10 345 (zRn 10) yX10_begins [.code yX10_begins cX10_begins 1 none], x ∈ zT := (List.forall_mem_cons.mpr ⟨zT_6 (List.mem_of_getElem? (i := 168) rfl) rfl, (List.forall_mem_cons.mpr ⟨zT_6 (List.mem_of_getElem? (i := 170) rfl) rfl, (List.forall_mem_cons.mpr ⟨zT_s (List.mem_of_getElem? (i := 44) rfl) rfl, (List.forall_mem_cons.mpr ⟨zT_1 (List.mem_of_getElem? (i := 12) rfl) rfl, (List.forall_mem_cons.mpr ⟨wcyX10_begins, (fun _ h => absurd h List.not_mem_nil)⟩)⟩)⟩)⟩)⟩)
theorem wMX10_348 : ∀ x ∈ wsV RX10 348 (zRn 10) yX10_readsPlace [.code yX10_readsPlace cX10_readsPlace 2 (some .boolean)], x ∈ zT := (List.forall_mem_cons.mpr ⟨zT_6 (List.mem_of_getElem? (i := 187) rfl) rfl, (List.forall_mem_cons.mpr ⟨zT_6 (List.mem_of_getElem? (i := 189) rfl) rfl, (List.forall_mem_cons.mpr ⟨zT_s (List.mem_of_getElem? (i := 48) rfl) rfl, (List.forall_mem_cons.mpr ⟨zT_1 (List.mem_of_getElem? (i := 12) rfl) rfl, (List.forall_mem_cons.mpr ⟨wcyX10_readsPlace, (fun _ h => absurd h List.not_mem_nil)⟩)⟩)⟩)⟩)⟩)
theorem wMX10_351 : ∀ x ∈ wsV RX10 351 (zRn 10) yX10_readsStream [.code yX10_readsStream cX10_readsStream 2 (some .boolean)], x ∈ zT := (List.forall_mem_cons.mpr ⟨zT_7 (List.mem_of_getElem? (i := 28) rfl) rfl, (List.forall_mem_cons.mpr ⟨zT_7 (List.mem_of_getElem? (i := 30) rfl) rfl, (List.forall_mem_cons.mpr ⟨zT_s (List.mem_of_getElem? (i := 62) rfl) rfl, (List.forall_mem_cons.mpr ⟨zT_1 (List.mem_of_getElem? (i := 12) rfl) rfl, (List.forall_mem_cons.mpr ⟨wcyX10_readsStream, (fun _ h => absurd h List.not_mem_nil)⟩)⟩)⟩)⟩)⟩)
theorem wMX10_354 : ∀ x ∈ wsV RX10 354 (zRn 10) yX10_readsPerson [.code yX10_readsPerson cX10_readsPerson 2 (some .boolean)], x ∈ zT := (List.forall_mem_cons.mpr ⟨zT_7 (List.mem_of_getElem? (i := 40) rfl) rfl, (List.forall_mem_cons.mpr ⟨zT_7 (List.mem_of_getElem? (i := 42) rfl) rfl, (List.forall_mem_cons.mpr ⟨zT_s (List.mem_of_getElem? (i := 65) rfl) rfl, (List.forall_mem_cons.mpr ⟨zT_1 (List.mem_of_getElem? (i := 12) rfl) rfl, (List.forall_mem_cons.mpr ⟨wcyX10_readsPerson, (fun _ h => absurd h List.not_mem_nil)⟩)⟩)⟩)⟩)⟩)
theorem wMX10_357 : ∀ x ∈ wsV RX10 357 (zRn 10) yX10_readsOtter [.code yX10_readsOtter cX10_readsOtter 2 (some .boolean)], x ∈ zT := (List.forall_mem_cons.mpr ⟨zT_7 (List.mem_of_getElem? (i := 44) rfl) rfl, (List.forall_mem_cons.mpr ⟨zT_7 (List.mem_of_getElem? (i := 46) rfl) rfl, (List.forall_mem_cons.mpr ⟨zT_s (List.mem_of_getElem? (i := 66) rfl) rfl, (List.forall_mem_cons.mpr ⟨zT_1 (List.mem_of_getElem? (i := 12) rfl) rfl, (List.forall_mem_cons.mpr ⟨wcyX10_readsOtter, (fun _ h => absurd h List.not_mem_nil)⟩)⟩)⟩)⟩)⟩)
theorem wMX10_360 : ∀ x ∈ wsV RX10 360 (zRn 10) yX10_readsWrit [.code yX10_readsWrit cX10_readsWrit 2 (some .boolean)], x ∈ zT := (List.forall_mem_cons.mpr ⟨zT_7 (List.mem_of_getElem? (i := 48) rfl) rfl, (List.forall_mem_cons.mpr ⟨zT_7 (List.mem_of_getElem? (i := 50) rfl) rfl, (List.forall_mem_cons.mpr ⟨zT_s (List.mem_of_getElem? (i := 67) rfl) rfl, (List.forall_mem_cons.mpr ⟨zT_1 (List.mem_of_getElem? (i := 12) rfl) rfl, (List.forall_mem_cons.mpr ⟨wcyX10_readsWrit, (fun _ h => absurd h List.not_mem_nil)⟩)⟩)⟩)⟩)⟩)
theorem wMX10_363 : ∀ x ∈ wsV RX10 363 (zRn 10) yX10_readsRain [.code yX10_readsRain cX10_readsRain 1 (some .boolean)], x ∈ zT := (List.forall_mem_cons.mpr ⟨zT_7 (List.mem_of_getElem? (i := 52) rfl) rfl, (List.forall_mem_cons.mpr ⟨zT_7 (List.mem_of_getElem? (i := 54) rfl) rfl, (List.forall_mem_cons.mpr ⟨zT_s (List.mem_of_getElem? (i := 68) rfl) rfl, (List.forall_mem_cons.mpr ⟨zT_1 (List.mem_of_getElem? (i := 12) rfl) rfl, (List.forall_mem_cons.mpr ⟨wcyX10_readsRain, (fun _ h => absurd h List.not_mem_nil)⟩)⟩)⟩)⟩)⟩)
theorem wMX10_366 : ∀ x ∈ wsV RX10 366 (zRn 10) yX10_readsWets [.code yX10_readsWets cX10_readsWets 1 (some .boolean)], x ∈ zT := (List.forall_mem_cons.mpr ⟨zT_7 (List.mem_of_getElem? (i := 56) rfl) rfl, (List.forall_mem_cons.mpr ⟨zT_7 (List.mem_of_getElem? (i := 58) rfl) rfl, (List.forall_mem_cons.mpr ⟨zT_s (List.mem_of_getElem? (i := 69) rfl) rfl, (List.forall_mem_cons.mpr ⟨zT_1 (List.mem_of_getElem? (i := 12) rfl) rfl, (List.forall_mem_cons.mpr ⟨wcyX10_readsWets, (fun _ h => absurd h List.not_mem_nil)⟩)⟩)⟩)⟩)⟩)
theorem wMX10_369 : ∀ x ∈ va_wsS RX10 369 yX10_shifts [.code yX10_shifts cX10_shifts 3 none], x ∈ zT := (List.forall_mem_cons.mpr ⟨zT_7 (List.mem_of_getElem? (i := 80) rfl) rfl, (List.forall_mem_cons.mpr ⟨zT_7 (List.mem_of_getElem? (i := 81) rfl) rfl, (List.forall_mem_cons.mpr ⟨zT_1 (List.mem_of_getElem? (i := 12) rfl) rfl, (List.forall_mem_cons.mpr ⟨wcyX10_shifts, (fun _ h => absurd h List.not_mem_nil)⟩)⟩)⟩)⟩)
theorem wMX10_373 : ∀ x ∈ va_wsS RX10 373 yX10_shiftsNames [.code yX10_shiftsNames cX10_shiftsNames 3 none], x ∈ zT := (List.forall_mem_cons.mpr ⟨zT_7 (List.mem_of_getElem? (i := 83) rfl) rfl, (List.forall_mem_cons.mpr ⟨zT_7 (List.mem_of_getElem? (i := 84) rfl) rfl, (List.forall_mem_cons.mpr ⟨zT_1 (List.mem_of_getElem? (i := 12) rfl) rfl, (List.forall_mem_cons.mpr ⟨wcyX10_shiftsNames, (fun _ h => absurd h List.not_mem_nil)⟩)⟩)⟩)⟩)
theorem wMX10_377 : ∀ x ∈ wsV RX10 377 (zRn 10) yX10_readsAll [.code yX10_readsAll cX10_readsAll 2 (some .boolean)], x ∈ zT := (List.forall_mem_cons.mpr ⟨zT_6 (List.mem_of_getElem? (i := 164) rfl) rfl, (List.forall_mem_cons.mpr ⟨zT_6 (List.mem_of_getElem? (i := 166) rfl) rfl, (List.forall_mem_cons.mpr ⟨zT_s (List.mem_of_getElem? (i := 43) rfl) rfl, (List.forall_mem_cons.mpr ⟨zT_1 (List.mem_of_getElem? (i := 12) rfl) rfl, (List.forall_mem_cons.mpr ⟨wcyX10_readsAll, (fun _ h => absurd h List.not_mem_nil)⟩)⟩)⟩)⟩)⟩)
theorem wMX10_380 : ∀ x ∈ wsV RX10 380 (zRn 10) yX10_lays [.code yX10_lays cX10_lays 1 none], x ∈ zT := (List.forall_mem_cons.mpr ⟨zT_7 (List.mem_of_getElem? (i := 76) rfl) rfl, (List.forall_mem_cons.mpr ⟨zT_7 (List.mem_of_getElem? (i := 78) rfl) rfl, (List.forall_mem_cons.mpr ⟨zT_s (List.mem_of_getElem? (i := 73) rfl) rfl, (List.forall_mem_cons.mpr ⟨zT_1 (List.mem_of_getElem? (i := 12) rfl) rfl, (List.forall_mem_cons.mpr ⟨wcyX10_lays, (fun _ h => absurd h List.not_mem_nil)⟩)⟩)⟩)⟩)⟩)
theorem wMX10_386 : ∀ x ∈ wsV RX10 386 (zRn 10) yX10_readsLine [.code yX10_readsLine cX10_readsLine 3 (some .boolean)], x ∈ zT := (List.forall_mem_cons.mpr ⟨zT_7 (List.mem_of_getElem? (i := 90) rfl) rfl, (List.forall_mem_cons.mpr ⟨zT_7 (List.mem_of_getElem? (i := 92) rfl) rfl, (List.forall_mem_cons.mpr ⟨zT_s (List.mem_of_getElem? (i := 74) rfl) rfl, (List.forall_mem_cons.mpr ⟨zT_1 (List.mem_of_getElem? (i := 12) rfl) rfl, (List.forall_mem_cons.mpr ⟨wcyX10_readsLine, (fun _ h => absurd h List.not_mem_nil)⟩)⟩)⟩)⟩)⟩)
theorem wMX10_389 : ∀ x ∈ wsV RX10 389 (zRn 10) yX10_laysLines [.code yX10_laysLines cX10_laysLines 4 none], x ∈ zT := (List.forall_mem_cons.mpr ⟨zT_7 (List.mem_of_getElem? (i := 94) rfl) rfl, (List.forall_mem_cons.mpr ⟨zT_7 (List.mem_of_getElem? (i := 96) rfl) rfl, (List.forall_mem_cons.mpr ⟨zT_s (List.mem_of_getElem? (i := 75) rfl) rfl, (List.forall_mem_cons.mpr ⟨zT_1 (List.mem_of_getElem? (i := 12) rfl) rfl, (List.forall_mem_cons.mpr ⟨wcyX10_laysLines, (fun _ h => absurd h List.not_mem_nil)⟩)⟩)⟩)⟩)⟩)
theorem wMX10_393 : ∀ x ∈ va_wsS RX10 393 yX10_bits [.code yX10_bits cX10_bits 3 (some .int)], x ∈ zT := (List.forall_mem_cons.mpr ⟨zT_7 (List.mem_of_getElem? (i := 146) rfl) rfl, (List.forall_mem_cons.mpr ⟨zT_7 (List.mem_of_getElem? (i := 147) rfl) rfl, (List.forall_mem_cons.mpr ⟨zT_1 (List.mem_of_getElem? (i := 12) rfl) rfl, (List.forall_mem_cons.mpr ⟨wcyX10_bits, (fun _ h => absurd h List.not_mem_nil)⟩)⟩)⟩)⟩)
theorem wMX10_396 : ∀ x ∈ wsV RX10 396 (zRn 10) yX10_worked [.code yX10_worked cX10_worked 6 (some .int)], x ∈ zT := (List.forall_mem_cons.mpr ⟨zT_7 (List.mem_of_getElem? (i := 204) rfl) rfl, (List.forall_mem_cons.mpr ⟨zT_7 (List.mem_of_getElem? (i := 206) rfl) rfl, (List.forall_mem_cons.mpr ⟨zT_s (List.mem_of_getElem? (i := 93) rfl) rfl, (List.forall_mem_cons.mpr ⟨zT_1 (List.mem_of_getElem? (i := 12) rfl) rfl, (List.forall_mem_cons.mpr ⟨wcyX10_worked, (fun _ h => absurd h List.not_mem_nil)⟩)⟩)⟩)⟩)⟩)
theorem wMX10_399 : ∀ x ∈ va_wsS RX10 399 yX10_between [.code yX10_between cX10_between 3 (some .int)], x ∈ zT := (List.forall_mem_cons.mpr ⟨zT_7 (List.mem_of_getElem? (i := 220) rfl) rfl, (List.forall_mem_cons.mpr ⟨zT_7 (List.mem_of_getElem? (i := 221) rfl) rfl, (List.forall_mem_cons.mpr ⟨zT_1 (List.mem_of_getElem? (i := 12) rfl) rfl, (List.forall_mem_cons.mpr ⟨wcyX10_between, (fun _ h => absurd h List.not_mem_nil)⟩)⟩)⟩)⟩)
theorem wMX10_403 : ∀ x ∈ wsV RX10 403 (zRn 10) yX10_wetBy [.code yX10_wetBy cX10_wetBy 4 (some .int)], x ∈ zT := (List.forall_mem_cons.mpr ⟨zT_7 (List.mem_of_getElem? (i := 200) rfl) rfl, (List.forall_mem_cons.mpr ⟨zT_7 (List.mem_of_getElem? (i := 202) rfl) rfl, (List.forall_mem_cons.mpr ⟨zT_s (List.mem_of_getElem? (i := 92) rfl) rfl, (List.forall_mem_cons.mpr ⟨zT_1 (List.mem_of_getElem? (i := 12) rfl) rfl, (List.forall_mem_cons.mpr ⟨wcyX10_wetBy, (fun _ h => absurd h List.not_mem_nil)⟩)⟩)⟩)⟩)⟩)
theorem wMX10_407 : ∀ x ∈ wsV RX10 407 (zRn 10) yX10_goesTo [.code yX10_goesTo cX10_goesTo 6 (some .int)], x ∈ zT := (List.forall_mem_cons.mpr ⟨zT_7 (List.mem_of_getElem? (i := 223) rfl) rfl, (List.forall_mem_cons.mpr ⟨zT_7 (List.mem_of_getElem? (i := 225) rfl) rfl, (List.forall_mem_cons.mpr ⟨zT_s (List.mem_of_getElem? (i := 97) rfl) rfl, (List.forall_mem_cons.mpr ⟨zT_1 (List.mem_of_getElem? (i := 12) rfl) rfl, (List.forall_mem_cons.mpr ⟨wcyX10_goesTo, (fun _ h => absurd h List.not_mem_nil)⟩)⟩)⟩)⟩)⟩)
theorem wMX10_410 : ∀ x ∈ wsV RX10 410 (zRn 10) yX10_rainOf [.code yX10_rainOf cX10_rainOf 2 (some .int)], x ∈ zT := (List.forall_mem_cons.mpr ⟨zT_7 (List.mem_of_getElem? (i := 192) rfl) rfl, (List.forall_mem_cons.mpr ⟨zT_7 (List.mem_of_getElem? (i := 194) rfl) rfl, (List.forall_mem_cons.mpr ⟨zT_s (List.mem_of_getElem? (i := 90) rfl) rfl, (List.forall_mem_cons.mpr ⟨zT_1 (List.mem_of_getElem? (i := 12) rfl) rfl, (List.forall_mem_cons.mpr ⟨wcyX10_rainOf, (fun _ h => absurd h List.not_mem_nil)⟩)⟩)⟩)⟩)⟩)
theorem wMX10_413 : ∀ x ∈ wsV RX10 413 (zRn 10) yX10_passes [.code yX10_passes cX10_passes 3 none], x ∈ zT := (List.forall_mem_cons.mpr ⟨zT_7 (List.mem_of_getElem? (i := 196) rfl) rfl, (List.forall_mem_cons.mpr ⟨zT_7 (List.mem_of_getElem? (i := 198) rfl) rfl, (List.forall_mem_cons.mpr ⟨zT_s (List.mem_of_getElem? (i := 91) rfl) rfl, (List.forall_mem_cons.mpr ⟨zT_1 (List.mem_of_getElem? (i := 12) rfl) rfl, (List.forall_mem_cons.mpr ⟨wcyX10_passes, (fun _ h => absurd h List.not_mem_nil)⟩)⟩)⟩)⟩)⟩)
theorem wMX10_416 : ∀ x ∈ wsV RX10 416 (zRn 10) yX10_isPlace [.code yX10_isPlace cX10_isPlace 2 (some .boolean)], x ∈ zT := (List.forall_mem_cons.mpr ⟨zT_7 (List.mem_of_getElem? (i := 102) rfl) rfl, (List.forall_mem_cons.mpr ⟨zT_7 (List.mem_of_getElem? (i := 104) rfl) rfl, (List.forall_mem_cons.mpr ⟨zT_s (List.mem_of_getElem? (i := 76) rfl) rfl, (List.forall_mem_cons.mpr ⟨zT_1 (List.mem_of_getElem? (i := 12) rfl) rfl, (List.forall_mem_cons.mpr ⟨wcyX10_isPlace, (fun _ h => absurd h List.not_mem_nil)⟩)⟩)⟩)⟩)⟩)
theorem wMX10_419 : ∀ x ∈ wsV RX10 419 (zRn 10) yX10_whoAt [.code yX10_whoAt cX10_whoAt 4 (some .int)], x ∈ zT := (List.forall_mem_cons.mpr ⟨zT_7 (List.mem_of_getElem? (i := 106) rfl) rfl, (List.forall_mem_cons.mpr ⟨zT_7 (List.mem_of_getElem? (i := 108) rfl) rfl, (List.forall_mem_cons.mpr ⟨zT_s (List.mem_of_getElem? (i := 77) rfl) rfl, (List.forall_mem_cons.mpr ⟨zT_1 (List.mem_of_getElem? (i := 12) rfl) rfl, (List.forall_mem_cons.mpr ⟨wcyX10_whoAt, (fun _ h => absurd h List.not_mem_nil)⟩)⟩)⟩)⟩)⟩)
theorem wMX10_422 : ∀ x ∈ wsV RX10 422 (zRn 10) yX10_isPerson [.code yX10_isPerson cX10_isPerson 2 (some .boolean)], x ∈ zT := (List.forall_mem_cons.mpr ⟨zT_7 (List.mem_of_getElem? (i := 114) rfl) rfl, (List.forall_mem_cons.mpr ⟨zT_7 (List.mem_of_getElem? (i := 116) rfl) rfl, (List.forall_mem_cons.mpr ⟨zT_s (List.mem_of_getElem? (i := 78) rfl) rfl, (List.forall_mem_cons.mpr ⟨zT_1 (List.mem_of_getElem? (i := 12) rfl) rfl, (List.forall_mem_cons.mpr ⟨wcyX10_isPerson, (fun _ h => absurd h List.not_mem_nil)⟩)⟩)⟩)⟩)⟩)
theorem wMX10_425 : ∀ x ∈ wsV RX10 425 (zRn 10) yX10_isOtter [.code yX10_isOtter cX10_isOtter 2 (some .boolean)], x ∈ zT := (List.forall_mem_cons.mpr ⟨zT_7 (List.mem_of_getElem? (i := 122) rfl) rfl, (List.forall_mem_cons.mpr ⟨zT_7 (List.mem_of_getElem? (i := 124) rfl) rfl, (List.forall_mem_cons.mpr ⟨zT_s (List.mem_of_getElem? (i := 79) rfl) rfl, (List.forall_mem_cons.mpr ⟨zT_1 (List.mem_of_getElem? (i := 12) rfl) rfl, (List.forall_mem_cons.mpr ⟨wcyX10_isOtter, (fun _ h => absurd h List.not_mem_nil)⟩)⟩)⟩)⟩)⟩)
theorem wMX10_428 : ∀ x ∈ wsV RX10 428 (zRn 10) yX10_writsOf [.code yX10_writsOf cX10_writsOf 4 (some .int)], x ∈ zT := (List.forall_mem_cons.mpr ⟨zT_7 (List.mem_of_getElem? (i := 126) rfl) rfl, (List.forall_mem_cons.mpr ⟨zT_7 (List.mem_of_getElem? (i := 128) rfl) rfl, (List.forall_mem_cons.mpr ⟨zT_s (List.mem_of_getElem? (i := 80) rfl) rfl, (List.forall_mem_cons.mpr ⟨zT_1 (List.mem_of_getElem? (i := 12) rfl) rfl, (List.forall_mem_cons.mpr ⟨wcyX10_writsOf, (fun _ h => absurd h List.not_mem_nil)⟩)⟩)⟩)⟩)⟩)
theorem wMX10_431 : ∀ x ∈ wsV RX10 431 (zRn 10) yX10_isWrit [.code yX10_isWrit cX10_isWrit 2 (some .boolean)], x ∈ zT := (List.forall_mem_cons.mpr ⟨zT_7 (List.mem_of_getElem? (i := 134) rfl) rfl, (List.forall_mem_cons.mpr ⟨zT_7 (List.mem_of_getElem? (i := 136) rfl) rfl, (List.forall_mem_cons.mpr ⟨zT_s (List.mem_of_getElem? (i := 81) rfl) rfl, (List.forall_mem_cons.mpr ⟨zT_1 (List.mem_of_getElem? (i := 12) rfl) rfl, (List.forall_mem_cons.mpr ⟨wcyX10_isWrit, (fun _ h => absurd h List.not_mem_nil)⟩)⟩)⟩)⟩)⟩)
theorem wMX10_434 : ∀ x ∈ va_wsS RX10 434 yX10_copies [.code yX10_copies cX10_copies 5 none], x ∈ zT := (List.forall_mem_cons.mpr ⟨zT_7 (List.mem_of_getElem? (i := 153) rfl) rfl, (List.forall_mem_cons.mpr ⟨zT_7 (List.mem_of_getElem? (i := 154) rfl) rfl, (List.forall_mem_cons.mpr ⟨zT_1 (List.mem_of_getElem? (i := 12) rfl) rfl, (List.forall_mem_cons.mpr ⟨wcyX10_copies, (fun _ h => absurd h List.not_mem_nil)⟩)⟩)⟩)⟩)
theorem wMX10_438 : ∀ x ∈ wsV RX10 438 (zRn 10) yX10_wets [.code yX10_wets cX10_wets 3 (some .int)], x ∈ zT := (List.forall_mem_cons.mpr ⟨zT_7 (List.mem_of_getElem? (i := 164) rfl) rfl, (List.forall_mem_cons.mpr ⟨zT_7 (List.mem_of_getElem? (i := 166) rfl) rfl, (List.forall_mem_cons.mpr ⟨zT_s (List.mem_of_getElem? (i := 85) rfl) rfl, (List.forall_mem_cons.mpr ⟨zT_1 (List.mem_of_getElem? (i := 12) rfl) rfl, (List.forall_mem_cons.mpr ⟨wcyX10_wets, (fun _ h => absurd h List.not_mem_nil)⟩)⟩)⟩)⟩)⟩)
theorem wMX10_441 : ∀ x ∈ wsV RX10 441 (zRn 10) yX10_isServed [.code yX10_isServed cX10_isServed 3 (some .boolean)], x ∈ zT := (List.forall_mem_cons.mpr ⟨zT_7 (List.mem_of_getElem? (i := 180) rfl) rfl, (List.forall_mem_cons.mpr ⟨zT_7 (List.mem_of_getElem? (i := 182) rfl) rfl, (List.forall_mem_cons.mpr ⟨zT_s (List.mem_of_getElem? (i := 88) rfl) rfl, (List.forall_mem_cons.mpr ⟨zT_1 (List.mem_of_getElem? (i := 12) rfl) rfl, (List.forall_mem_cons.mpr ⟨wcyX10_isServed, (fun _ h => absurd h List.not_mem_nil)⟩)⟩)⟩)⟩)⟩)
theorem wMX10_444 : ∀ x ∈ wsV RX10 444 (zRn 10) yX10_canTake [.code yX10_canTake cX10_canTake 3 (some .boolean)], x ∈ zT := (List.forall_mem_cons.mpr ⟨zT_7 (List.mem_of_getElem? (i := 142) rfl) rfl, (List.forall_mem_cons.mpr ⟨zT_7 (List.mem_of_getElem? (i := 144) rfl) rfl, (List.forall_mem_cons.mpr ⟨zT_s (List.mem_of_getElem? (i := 82) rfl) rfl, (List.forall_mem_cons.mpr ⟨zT_1 (List.mem_of_getElem? (i := 12) rfl) rfl, (List.forall_mem_cons.mpr ⟨wcyX10_canTake, (fun _ h => absurd h List.not_mem_nil)⟩)⟩)⟩)⟩)⟩)
theorem wMX10_447 : ∀ x ∈ wsV RX10 447 (zRn 10) yX10_keeps [.code yX10_keeps cX10_keeps 2 none], x ∈ zT := (List.forall_mem_cons.mpr ⟨zT_7 (List.mem_of_getElem? (i := 149) rfl) rfl, (List.forall_mem_cons.mpr ⟨zT_7 (List.mem_of_getElem? (i := 151) rfl) rfl, (List.forall_mem_cons.mpr ⟨zT_s (List.mem_of_getElem? (i := 83) rfl) rfl, (List.forall_mem_cons.mpr ⟨zT_1 (List.mem_of_getElem? (i := 12) rfl) rfl, (List.forall_mem_cons.mpr ⟨wcyX10_keeps, (fun _ h => absurd h List.not_mem_nil)⟩)⟩)⟩)⟩)⟩)
theorem wMX10_450 : ∀ x ∈ wsV RX10 450 (zRn 10) yX10_canSwim [.code yX10_canSwim cX10_canSwim 3 (some .int)], x ∈ zT := (List.forall_mem_cons.mpr ⟨zT_7 (List.mem_of_getElem? (i := 160) rfl) rfl, (List.forall_mem_cons.mpr ⟨zT_7 (List.mem_of_getElem? (i := 162) rfl) rfl, (List.forall_mem_cons.mpr ⟨zT_s (List.mem_of_getElem? (i := 84) rfl) rfl, (List.forall_mem_cons.mpr ⟨zT_1 (List.mem_of_getElem? (i := 12) rfl) rfl, (List.forall_mem_cons.mpr ⟨wcyX10_canSwim, (fun _ h => absurd h List.not_mem_nil)⟩)⟩)⟩)⟩)⟩)
theorem wMX10_453 : ∀ x ∈ wsV RX10 453 (zRn 10) yX10_swims [.code yX10_swims cX10_swims 3 none], x ∈ zT := (List.forall_mem_cons.mpr ⟨zT_7 (List.mem_of_getElem? (i := 168) rfl) rfl, (List.forall_mem_cons.mpr ⟨zT_7 (List.mem_of_getElem? (i := 170) rfl) rfl, (List.forall_mem_cons.mpr ⟨zT_s (List.mem_of_getElem? (i := 86) rfl) rfl, (List.forall_mem_cons.mpr ⟨zT_1 (List.mem_of_getElem? (i := 12) rfl) rfl, (List.forall_mem_cons.mpr ⟨wcyX10_swims, (fun _ h => absurd h List.not_mem_nil)⟩)⟩)⟩)⟩)⟩)
theorem wMX10_456 : ∀ x ∈ wsV RX10 456 (zRn 10) yX10_canServe [.code yX10_canServe cX10_canServe 4 (some .boolean)], x ∈ zT := (List.forall_mem_cons.mpr ⟨zT_7 (List.mem_of_getElem? (i := 176) rfl) rfl, (List.forall_mem_cons.mpr ⟨zT_7 (List.mem_of_getElem? (i := 178) rfl) rfl, (List.forall_mem_cons.mpr ⟨zT_s (List.mem_of_getElem? (i := 87) rfl) rfl, (List.forall_mem_cons.mpr ⟨zT_1 (List.mem_of_getElem? (i := 12) rfl) rfl, (List.forall_mem_cons.mpr ⟨wcyX10_canServe, (fun _ h => absurd h List.not_mem_nil)⟩)⟩)⟩)⟩)⟩)
theorem wMX10_459 : ∀ x ∈ wsV RX10 459 (zRn 10) yX10_passesAsTold [.code yX10_passesAsTold cX10_passesAsTold 1 none], x ∈ zT := (List.forall_mem_cons.mpr ⟨zT_7 (List.mem_of_getElem? (i := 188) rfl) rfl, (List.forall_mem_cons.mpr ⟨zT_7 (List.mem_of_getElem? (i := 190) rfl) rfl, (List.forall_mem_cons.mpr ⟨zT_s (List.mem_of_getElem? (i := 89) rfl) rfl, (List.forall_mem_cons.mpr ⟨zT_1 (List.mem_of_getElem? (i := 12) rfl) rfl, (List.forall_mem_cons.mpr ⟨wcyX10_passesAsTold, (fun _ h => absurd h List.not_mem_nil)⟩)⟩)⟩)⟩)⟩)
theorem wMX10_462 : ∀ x ∈ wsV RX10 462 (zRn 10) yX10_comes [.code yX10_comes cX10_comes 4 (some .int)], x ∈ zT := (List.forall_mem_cons.mpr ⟨zT_8 (List.mem_of_getElem? (i := 7) rfl) rfl, (List.forall_mem_cons.mpr ⟨zT_8 (List.mem_of_getElem? (i := 9) rfl) rfl, (List.forall_mem_cons.mpr ⟨zT_s (List.mem_of_getElem? (i := 98) rfl) rfl, (List.forall_mem_cons.mpr ⟨zT_1 (List.mem_of_getElem? (i := 12) rfl) rfl, (List.forall_mem_cons.mpr ⟨wcyX10_comes, (fun _ h => absurd h List.not_mem_nil)⟩)⟩)⟩)⟩)⟩)
theorem wMX10_472 : ∀ x ∈ wsV RX10 472 (zRn 10) yX10_nextTo [.code yX10_nextTo cX10_nextTo 4 (some .int)], x ∈ zT := (List.forall_mem_cons.mpr ⟨zT_8 (List.mem_of_getElem? (i := 36) rfl) rfl, (List.forall_mem_cons.mpr ⟨zT_8 (List.mem_of_getElem? (i := 38) rfl) rfl, (List.forall_mem_cons.mpr ⟨zT_s (List.mem_of_getElem? (i := 100) rfl) rfl, (List.forall_mem_cons.mpr ⟨zT_1 (List.mem_of_getElem? (i := 12) rfl) rfl, (List.forall_mem_cons.mpr ⟨wcyX10_nextTo, (fun _ h => absurd h List.not_mem_nil)⟩)⟩)⟩)⟩)⟩)
theorem wMX10_475 : ∀ x ∈ va_wsS RX10 475 yJ9_max_7cf53 [.code yJ9_max_7cf53 cJ9_max_7cf53 2 (some .int)], x ∈ zT := (List.forall_mem_cons.mpr ⟨zT_8 (List.mem_of_getElem? (i := 31) rfl) rfl, (List.forall_mem_cons.mpr ⟨zT_4 (List.mem_of_getElem? (i := 67) rfl) rfl, (List.forall_mem_cons.mpr ⟨zT_1 (List.mem_of_getElem? (i := 14) rfl) rfl, (List.forall_mem_cons.mpr ⟨wcyJ9_max_7cf53, (fun _ h => absurd h List.not_mem_nil)⟩)⟩)⟩)⟩)
theorem wMX10_480 : ∀ x ∈ wsV RX10 480 (zRn 10) yX10_swimsAll [.code yX10_swimsAll cX10_swimsAll 5 none], x ∈ zT := (List.forall_mem_cons.mpr ⟨zT_8 (List.mem_of_getElem? (i := 32) rfl) rfl, (List.forall_mem_cons.mpr ⟨zT_8 (List.mem_of_getElem? (i := 34) rfl) rfl, (List.forall_mem_cons.mpr ⟨zT_s (List.mem_of_getElem? (i := 99) rfl) rfl, (List.forall_mem_cons.mpr ⟨zT_1 (List.mem_of_getElem? (i := 12) rfl) rfl, (List.forall_mem_cons.mpr ⟨wcyX10_swimsAll, (fun _ h => absurd h List.not_mem_nil)⟩)⟩)⟩)⟩)⟩)
theorem wMX10_484 : ∀ x ∈ wsV RX10 484 (zRn 10) yX10_servesIn [.code yX10_servesIn cX10_servesIn 7 (some .int)], x ∈ zT := (List.forall_mem_cons.mpr ⟨zT_8 (List.mem_of_getElem? (i := 44) rfl) rfl, (List.forall_mem_cons.mpr ⟨zT_8 (List.mem_of_getElem? (i := 46) rfl) rfl, (List.forall_mem_cons.mpr ⟨zT_s (List.mem_of_getElem? (i := 101) rfl) rfl, (List.forall_mem_cons.mpr ⟨zT_1 (List.mem_of_getElem? (i := 12) rfl) rfl, (List.forall_mem_cons.mpr ⟨wcyX10_servesIn, (fun _ h => absurd h List.not_mem_nil)⟩)⟩)⟩)⟩)⟩)
theorem wMX10_493 : ∀ x ∈ wsV RX10 493 (zRn 10) yX10_shares [.code yX10_shares cX10_shares 6 none], x ∈ zT := (List.forall_mem_cons.mpr ⟨zT_8 (List.mem_of_getElem? (i := 56) rfl) rfl, (List.forall_mem_cons.mpr ⟨zT_8 (List.mem_of_getElem? (i := 58) rfl) rfl, (List.forall_mem_cons.mpr ⟨zT_s (List.mem_of_getElem? (i := 102) rfl) rfl, (List.forall_mem_cons.mpr ⟨zT_1 (List.mem_of_getElem? (i := 12) rfl) rfl, (List.forall_mem_cons.mpr ⟨wcyX10_shares, (fun _ h => absurd h List.not_mem_nil)⟩)⟩)⟩)⟩)⟩)
theorem wMX10_497 : ∀ x ∈ wsV RX10 497 (zRn 10) yX10_every [.code yX10_every cX10_every 1 (some .int)], x ∈ zT := (List.forall_mem_cons.mpr ⟨zT_8 (List.mem_of_getElem? (i := 76) rfl) rfl, (List.forall_mem_cons.mpr ⟨zT_8 (List.mem_of_getElem? (i := 78) rfl) rfl, (List.forall_mem_cons.mpr ⟨zT_s (List.mem_of_getElem? (i := 103) rfl) rfl, (List.forall_mem_cons.mpr ⟨zT_1 (List.mem_of_getElem? (i := 12) rfl) rfl, (List.forall_mem_cons.mpr ⟨wcyX10_every, (fun _ h => absurd h List.not_mem_nil)⟩)⟩)⟩)⟩)⟩)
theorem wMX10_500 : ∀ x ∈ wsV RX10 500 (zRn 10) yX10_spreads [.code yX10_spreads cX10_spreads 5 (some .int)], x ∈ zT := (List.forall_mem_cons.mpr ⟨zT_8 (List.mem_of_getElem? (i := 80) rfl) rfl, (List.forall_mem_cons.mpr ⟨zT_8 (List.mem_of_getElem? (i := 82) rfl) rfl, (List.forall_mem_cons.mpr ⟨zT_s (List.mem_of_getElem? (i := 104) rfl) rfl, (List.forall_mem_cons.mpr ⟨zT_1 (List.mem_of_getElem? (i := 12) rfl) rfl, (List.forall_mem_cons.mpr ⟨wcyX10_spreads, (fun _ h => absurd h List.not_mem_nil)⟩)⟩)⟩)⟩)⟩)
theorem wMX10_503 : ∀ x ∈ va_wsS RX10 503 yX10_lowest [.code yX10_lowest cX10_lowest 2 (some .int)], x ∈ zT := (List.forall_mem_cons.mpr ⟨zT_8 (List.mem_of_getElem? (i := 96) rfl) rfl, (List.forall_mem_cons.mpr ⟨zT_8 (List.mem_of_getElem? (i := 97) rfl) rfl, (List.forall_mem_cons.mpr ⟨zT_1 (List.mem_of_getElem? (i := 12) rfl) rfl, (List.forall_mem_cons.mpr ⟨wcyX10_lowest, (fun _ h => absurd h List.not_mem_nil)⟩)⟩)⟩)⟩)
theorem wMX10_506 : ∀ x ∈ wsV RX10 506 (zRn 10) yX10_laysRains [.code yX10_laysRains cX10_laysRains 3 none], x ∈ zT := (List.forall_mem_cons.mpr ⟨zT_8 (List.mem_of_getElem? (i := 119) rfl) rfl, (List.forall_mem_cons.mpr ⟨zT_8 (List.mem_of_getElem? (i := 121) rfl) rfl, (List.forall_mem_cons.mpr ⟨zT_s (List.mem_of_getElem? (i := 105) rfl) rfl, (List.forall_mem_cons.mpr ⟨zT_1 (List.mem_of_getElem? (i := 12) rfl) rfl, (List.forall_mem_cons.mpr ⟨wcyX10_laysRains, (fun _ h => absurd h List.not_mem_nil)⟩)⟩)⟩)⟩)⟩)
theorem wMX10_509 : ∀ x ∈ wsV RX10 509 (zRn 10) yX10_isAsSeen [.code yX10_isAsSeen cX10_isAsSeen 3 (some .boolean)], x ∈ zT := (List.forall_mem_cons.mpr ⟨zT_8 (List.mem_of_getElem? (i := 123) rfl) rfl, (List.forall_mem_cons.mpr ⟨zT_8 (List.mem_of_getElem? (i := 125) rfl) rfl, (List.forall_mem_cons.mpr ⟨zT_s (List.mem_of_getElem? (i := 106) rfl) rfl, (List.forall_mem_cons.mpr ⟨zT_1 (List.mem_of_getElem? (i := 12) rfl) rfl, (List.forall_mem_cons.mpr ⟨wcyX10_isAsSeen, (fun _ h => absurd h List.not_mem_nil)⟩)⟩)⟩)⟩)⟩)
theorem wMX10_512 : ∀ x ∈ wsV RX10 512 (zRn 10) yX10_rains [.code yX10_rains cX10_rains 3 (some .int)], x ∈ zT := (List.forall_mem_cons.mpr ⟨zT_8 (List.mem_of_getElem? (i := 131) rfl) rfl, (List.forall_mem_cons.mpr ⟨zT_8 (List.mem_of_getElem? (i := 116) rfl) rfl, (List.forall_mem_cons.mpr ⟨zT_8 (List.mem_of_getElem? (i := 117) rfl) rfl, (List.forall_mem_cons.mpr ⟨zT_1 (List.mem_of_getElem? (i := 12) rfl) rfl, (List.forall_mem_cons.mpr ⟨wcyX10_rains, (fun _ h => absurd h List.not_mem_nil)⟩)⟩)⟩)⟩)⟩)
theorem wMX10_519 : ∀ x ∈ va_wsS RX10 519 yX10_getsBy [.code yX10_getsBy cX10_getsBy 5 (some .int)], x ∈ zT := (List.forall_mem_cons.mpr ⟨zT_8 (List.mem_of_getElem? (i := 142) rfl) rfl, (List.forall_mem_cons.mpr ⟨zT_8 (List.mem_of_getElem? (i := 143) rfl) rfl, (List.forall_mem_cons.mpr ⟨zT_1 (List.mem_of_getElem? (i := 12) rfl) rfl, (List.forall_mem_cons.mpr ⟨wcyX10_getsBy, (fun _ h => absurd h List.not_mem_nil)⟩)⟩)⟩)⟩)
theorem wMX10_534 : ∀ x ∈ wsV RX10 534 (zRn 10) yX10_draws [.code yX10_draws cX10_draws 2 (some .int)], x ∈ zT := (List.forall_mem_cons.mpr ⟨zT_8 (List.mem_of_getElem? (i := 153) rfl) rfl, (List.forall_mem_cons.mpr ⟨zT_8 (List.mem_of_getElem? (i := 155) rfl) rfl, (List.forall_mem_cons.mpr ⟨zT_s (List.mem_of_getElem? (i := 108) rfl) rfl, (List.forall_mem_cons.mpr ⟨zT_1 (List.mem_of_getElem? (i := 12) rfl) rfl, (List.forall_mem_cons.mpr ⟨wcyX10_draws, (fun _ h => absurd h List.not_mem_nil)⟩)⟩)⟩)⟩)⟩)
theorem wMX10_537 : ∀ x ∈ wsV RX10 537 (zRn 10) yX10_livesDay [.code yX10_livesDay cX10_livesDay 5 none], x ∈ zT := (List.forall_mem_cons.mpr ⟨zT_8 (List.mem_of_getElem? (i := 149) rfl) rfl, (List.forall_mem_cons.mpr ⟨zT_8 (List.mem_of_getElem? (i := 151) rfl) rfl, (List.forall_mem_cons.mpr ⟨zT_s (List.mem_of_getElem? (i := 107) rfl) rfl, (List.forall_mem_cons.mpr ⟨zT_1 (List.mem_of_getElem? (i := 12) rfl) rfl, (List.forall_mem_cons.mpr ⟨wcyX10_livesDay, (fun _ h => absurd h List.not_mem_nil)⟩)⟩)⟩)⟩)⟩)
theorem wMX10_540 : ∀ x ∈ wsV RX10 540 (zRn 10) yX10_laysSeen [.code yX10_laysSeen cX10_laysSeen 4 none], x ∈ zT := (List.forall_mem_cons.mpr ⟨zT_8 (List.mem_of_getElem? (i := 165) rfl) rfl, (List.forall_mem_cons.mpr ⟨zT_8 (List.mem_of_getElem? (i := 167) rfl) rfl, (List.forall_mem_cons.mpr ⟨zT_s (List.mem_of_getElem? (i := 109) rfl) rfl, (List.forall_mem_cons.mpr ⟨zT_1 (List.mem_of_getElem? (i := 12) rfl) rfl, (List.forall_mem_cons.mpr ⟨wcyX10_laysSeen, (fun _ h => absurd h List.not_mem_nil)⟩)⟩)⟩)⟩)⟩)
