/-! What holds at the law's entry. Printed by wip/whole/gen/part35.py. -/
def mm_tm (i : Nat) : Term := Term.string (mm_nth ("", 0, "") i mm_str).1 (mm_nth ("", 0, "") i mm_str).2.1
section MM
variable {args : Array Value} {s : State} {A : Nat → Prop}
set_option maxRecDepth 20000 in
theorem mm_strs (hs : ∀ c ∈ flatC (Jvm.Cond.and given_1 narrow_1), c.before args s = true) (hA : ∀ a : Nat, a < s.heap.size → ¬ A a) : ∃ adK adV : Nat → Nat, vk_S 12 mm_sl mm_sb adK adV A s s.heap ∧ ∀ i : Nat, i < 12 → (mm_tm i).eval args s none [] s = some (.ref (adK i)) := by
  refine vk_Sof (tm := mm_tm) (by decide +kernel) ?_ ?_ ?_ ?_ ?_ ?_ hA
  · intro i hi
    match i, hi with
    | 0, _ => exact hs _ (List.mem_of_getElem? (i := 35) (by decide +kernel))
    | 1, _ => exact hs _ (List.mem_of_getElem? (i := 53) (by decide +kernel))
    | 2, _ => exact hs _ (List.mem_of_getElem? (i := 60) (by decide +kernel))
    | 3, _ => exact hs _ (List.mem_of_getElem? (i := 69) (by decide +kernel))
    | 4, _ => exact hs _ (List.mem_of_getElem? (i := 79) (by decide +kernel))
    | 5, _ => exact hs _ (List.mem_of_getElem? (i := 142) (by decide +kernel))
    | 6, _ => exact hs _ (List.mem_of_getElem? (i := 211) (by decide +kernel))
    | 7, _ => exact hs _ (List.mem_of_getElem? (i := 239) (by decide +kernel))
    | 8, _ => exact hs _ (List.mem_of_getElem? (i := 254) (by decide +kernel))
    | 9, _ => exact hs _ (List.mem_of_getElem? (i := 297) (by decide +kernel))
    | 10, _ => exact hs _ (List.mem_of_getElem? (i := 312) (by decide +kernel))
    | 11, _ => exact hs _ (List.mem_of_getElem? (i := 338) (by decide +kernel))
    | n + 12, h => exact absurd h (by omega)
  · intro i hi
    match i, hi with
    | 0, _ => exact hs _ (List.mem_of_getElem? (i := 36) (by decide +kernel))
    | 1, _ => exact hs _ (List.mem_of_getElem? (i := 54) (by decide +kernel))
    | 2, _ => exact hs _ (List.mem_of_getElem? (i := 61) (by decide +kernel))
    | 3, _ => exact hs _ (List.mem_of_getElem? (i := 70) (by decide +kernel))
    | 4, _ => exact hs _ (List.mem_of_getElem? (i := 80) (by decide +kernel))
    | 5, _ => exact hs _ (List.mem_of_getElem? (i := 143) (by decide +kernel))
    | 6, _ => exact hs _ (List.mem_of_getElem? (i := 212) (by decide +kernel))
    | 7, _ => exact hs _ (List.mem_of_getElem? (i := 240) (by decide +kernel))
    | 8, _ => exact hs _ (List.mem_of_getElem? (i := 255) (by decide +kernel))
    | 9, _ => exact hs _ (List.mem_of_getElem? (i := 298) (by decide +kernel))
    | 10, _ => exact hs _ (List.mem_of_getElem? (i := 313) (by decide +kernel))
    | 11, _ => exact hs _ (List.mem_of_getElem? (i := 339) (by decide +kernel))
    | n + 12, h => exact absurd h (by omega)
  · intro i hi
    match i, hi with
    | 0, _ => exact hs _ (List.mem_of_getElem? (i := 37) (by decide +kernel))
    | 1, _ => exact hs _ (List.mem_of_getElem? (i := 55) (by decide +kernel))
    | 2, _ => exact hs _ (List.mem_of_getElem? (i := 62) (by decide +kernel))
    | 3, _ => exact hs _ (List.mem_of_getElem? (i := 71) (by decide +kernel))
    | 4, _ => exact hs _ (List.mem_of_getElem? (i := 81) (by decide +kernel))
    | 5, _ => exact hs _ (List.mem_of_getElem? (i := 144) (by decide +kernel))
    | 6, _ => exact hs _ (List.mem_of_getElem? (i := 213) (by decide +kernel))
    | 7, _ => exact hs _ (List.mem_of_getElem? (i := 241) (by decide +kernel))
    | 8, _ => exact hs _ (List.mem_of_getElem? (i := 256) (by decide +kernel))
    | 9, _ => exact hs _ (List.mem_of_getElem? (i := 299) (by decide +kernel))
    | 10, _ => exact hs _ (List.mem_of_getElem? (i := 314) (by decide +kernel))
    | 11, _ => exact hs _ (List.mem_of_getElem? (i := 340) (by decide +kernel))
    | n + 12, h => exact absurd h (by omega)
  · intro i hi
    match i, hi with
    | 0, _ => exact hs _ (List.mem_of_getElem? (i := 38) (by decide +kernel))
    | 1, _ => exact hs _ (List.mem_of_getElem? (i := 56) (by decide +kernel))
    | 2, _ => exact hs _ (List.mem_of_getElem? (i := 63) (by decide +kernel))
    | 3, _ => exact hs _ (List.mem_of_getElem? (i := 72) (by decide +kernel))
    | 4, _ => exact hs _ (List.mem_of_getElem? (i := 82) (by decide +kernel))
    | 5, _ => exact hs _ (List.mem_of_getElem? (i := 145) (by decide +kernel))
    | 6, _ => exact hs _ (List.mem_of_getElem? (i := 214) (by decide +kernel))
    | 7, _ => exact hs _ (List.mem_of_getElem? (i := 242) (by decide +kernel))
    | 8, _ => exact hs _ (List.mem_of_getElem? (i := 257) (by decide +kernel))
    | 9, _ => exact hs _ (List.mem_of_getElem? (i := 300) (by decide +kernel))
    | 10, _ => exact hs _ (List.mem_of_getElem? (i := 315) (by decide +kernel))
    | 11, _ => exact hs _ (List.mem_of_getElem? (i := 341) (by decide +kernel))
    | n + 12, h => exact absurd h (by omega)
  · intro i hi
    match i, hi with
    | 0, _ =>
      intro j hj
      have hj : j < 14 := hj
      match j, hj with
      | 0, _ => exact hs _ (List.mem_of_getElem? (i := 39) (by decide +kernel))
      | 1, _ => exact hs _ (List.mem_of_getElem? (i := 40) (by decide +kernel))
      | 2, _ => exact hs _ (List.mem_of_getElem? (i := 41) (by decide +kernel))
      | 3, _ => exact hs _ (List.mem_of_getElem? (i := 42) (by decide +kernel))
      | 4, _ => exact hs _ (List.mem_of_getElem? (i := 43) (by decide +kernel))
      | 5, _ => exact hs _ (List.mem_of_getElem? (i := 44) (by decide +kernel))
      | 6, _ => exact hs _ (List.mem_of_getElem? (i := 45) (by decide +kernel))
      | 7, _ => exact hs _ (List.mem_of_getElem? (i := 46) (by decide +kernel))
      | 8, _ => exact hs _ (List.mem_of_getElem? (i := 47) (by decide +kernel))
      | 9, _ => exact hs _ (List.mem_of_getElem? (i := 48) (by decide +kernel))
      | 10, _ => exact hs _ (List.mem_of_getElem? (i := 49) (by decide +kernel))
      | 11, _ => exact hs _ (List.mem_of_getElem? (i := 50) (by decide +kernel))
      | 12, _ => exact hs _ (List.mem_of_getElem? (i := 51) (by decide +kernel))
      | 13, _ => exact hs _ (List.mem_of_getElem? (i := 52) (by decide +kernel))
      | n + 14, h => exact absurd h (by omega)
    | 1, _ =>
      intro j hj
      have hj : j < 2 := hj
      match j, hj with
      | 0, _ => exact hs _ (List.mem_of_getElem? (i := 57) (by decide +kernel))
      | 1, _ => exact hs _ (List.mem_of_getElem? (i := 58) (by decide +kernel))
      | n + 2, h => exact absurd h (by omega)
    | 2, _ =>
      intro j hj
      have hj : j < 3 := hj
      match j, hj with
      | 0, _ => exact hs _ (List.mem_of_getElem? (i := 64) (by decide +kernel))
      | 1, _ => exact hs _ (List.mem_of_getElem? (i := 65) (by decide +kernel))
      | 2, _ => exact hs _ (List.mem_of_getElem? (i := 66) (by decide +kernel))
      | n + 3, h => exact absurd h (by omega)
    | 3, _ =>
      intro j hj
      have hj : j < 3 := hj
      match j, hj with
      | 0, _ => exact hs _ (List.mem_of_getElem? (i := 73) (by decide +kernel))
      | 1, _ => exact hs _ (List.mem_of_getElem? (i := 74) (by decide +kernel))
      | 2, _ => exact hs _ (List.mem_of_getElem? (i := 75) (by decide +kernel))
      | n + 3, h => exact absurd h (by omega)
    | 4, _ =>
      intro j hj
      have hj : j < 55 := hj
      match j, hj with
      | 0, _ => exact hs _ (List.mem_of_getElem? (i := 83) (by decide +kernel))
      | 1, _ => exact hs _ (List.mem_of_getElem? (i := 84) (by decide +kernel))
      | 2, _ => exact hs _ (List.mem_of_getElem? (i := 85) (by decide +kernel))
      | 3, _ => exact hs _ (List.mem_of_getElem? (i := 86) (by decide +kernel))
      | 4, _ => exact hs _ (List.mem_of_getElem? (i := 87) (by decide +kernel))
      | 5, _ => exact hs _ (List.mem_of_getElem? (i := 88) (by decide +kernel))
      | 6, _ => exact hs _ (List.mem_of_getElem? (i := 89) (by decide +kernel))
      | 7, _ => exact hs _ (List.mem_of_getElem? (i := 90) (by decide +kernel))
      | 8, _ => exact hs _ (List.mem_of_getElem? (i := 91) (by decide +kernel))
      | 9, _ => exact hs _ (List.mem_of_getElem? (i := 92) (by decide +kernel))
      | 10, _ => exact hs _ (List.mem_of_getElem? (i := 93) (by decide +kernel))
      | 11, _ => exact hs _ (List.mem_of_getElem? (i := 94) (by decide +kernel))
      | 12, _ => exact hs _ (List.mem_of_getElem? (i := 95) (by decide +kernel))
      | 13, _ => exact hs _ (List.mem_of_getElem? (i := 96) (by decide +kernel))
      | 14, _ => exact hs _ (List.mem_of_getElem? (i := 97) (by decide +kernel))
      | 15, _ => exact hs _ (List.mem_of_getElem? (i := 98) (by decide +kernel))
      | 16, _ => exact hs _ (List.mem_of_getElem? (i := 99) (by decide +kernel))
      | 17, _ => exact hs _ (List.mem_of_getElem? (i := 100) (by decide +kernel))
      | 18, _ => exact hs _ (List.mem_of_getElem? (i := 101) (by decide +kernel))
      | 19, _ => exact hs _ (List.mem_of_getElem? (i := 102) (by decide +kernel))
      | 20, _ => exact hs _ (List.mem_of_getElem? (i := 103) (by decide +kernel))
      | 21, _ => exact hs _ (List.mem_of_getElem? (i := 104) (by decide +kernel))
      | 22, _ => exact hs _ (List.mem_of_getElem? (i := 105) (by decide +kernel))
      | 23, _ => exact hs _ (List.mem_of_getElem? (i := 106) (by decide +kernel))
      | 24, _ => exact hs _ (List.mem_of_getElem? (i := 107) (by decide +kernel))
      | 25, _ => exact hs _ (List.mem_of_getElem? (i := 108) (by decide +kernel))
      | 26, _ => exact hs _ (List.mem_of_getElem? (i := 109) (by decide +kernel))
      | 27, _ => exact hs _ (List.mem_of_getElem? (i := 110) (by decide +kernel))
      | 28, _ => exact hs _ (List.mem_of_getElem? (i := 111) (by decide +kernel))
      | 29, _ => exact hs _ (List.mem_of_getElem? (i := 112) (by decide +kernel))
      | 30, _ => exact hs _ (List.mem_of_getElem? (i := 113) (by decide +kernel))
      | 31, _ => exact hs _ (List.mem_of_getElem? (i := 114) (by decide +kernel))
      | 32, _ => exact hs _ (List.mem_of_getElem? (i := 115) (by decide +kernel))
      | 33, _ => exact hs _ (List.mem_of_getElem? (i := 116) (by decide +kernel))
      | 34, _ => exact hs _ (List.mem_of_getElem? (i := 117) (by decide +kernel))
      | 35, _ => exact hs _ (List.mem_of_getElem? (i := 118) (by decide +kernel))
      | 36, _ => exact hs _ (List.mem_of_getElem? (i := 119) (by decide +kernel))
      | 37, _ => exact hs _ (List.mem_of_getElem? (i := 120) (by decide +kernel))
      | 38, _ => exact hs _ (List.mem_of_getElem? (i := 121) (by decide +kernel))
      | 39, _ => exact hs _ (List.mem_of_getElem? (i := 122) (by decide +kernel))
      | 40, _ => exact hs _ (List.mem_of_getElem? (i := 123) (by decide +kernel))
      | 41, _ => exact hs _ (List.mem_of_getElem? (i := 124) (by decide +kernel))
      | 42, _ => exact hs _ (List.mem_of_getElem? (i := 125) (by decide +kernel))
      | 43, _ => exact hs _ (List.mem_of_getElem? (i := 126) (by decide +kernel))
      | 44, _ => exact hs _ (List.mem_of_getElem? (i := 127) (by decide +kernel))
      | 45, _ => exact hs _ (List.mem_of_getElem? (i := 128) (by decide +kernel))
      | 46, _ => exact hs _ (List.mem_of_getElem? (i := 129) (by decide +kernel))
      | 47, _ => exact hs _ (List.mem_of_getElem? (i := 130) (by decide +kernel))
      | 48, _ => exact hs _ (List.mem_of_getElem? (i := 131) (by decide +kernel))
      | 49, _ => exact hs _ (List.mem_of_getElem? (i := 132) (by decide +kernel))
      | 50, _ => exact hs _ (List.mem_of_getElem? (i := 133) (by decide +kernel))
      | 51, _ => exact hs _ (List.mem_of_getElem? (i := 134) (by decide +kernel))
      | 52, _ => exact hs _ (List.mem_of_getElem? (i := 135) (by decide +kernel))
      | 53, _ => exact hs _ (List.mem_of_getElem? (i := 136) (by decide +kernel))
      | 54, _ => exact hs _ (List.mem_of_getElem? (i := 137) (by decide +kernel))
      | n + 55, h => exact absurd h (by omega)
    | 5, _ =>
      intro j hj
      have hj : j < 60 := hj
      match j, hj with
      | 0, _ => exact hs _ (List.mem_of_getElem? (i := 146) (by decide +kernel))
      | 1, _ => exact hs _ (List.mem_of_getElem? (i := 147) (by decide +kernel))
      | 2, _ => exact hs _ (List.mem_of_getElem? (i := 148) (by decide +kernel))
      | 3, _ => exact hs _ (List.mem_of_getElem? (i := 149) (by decide +kernel))
      | 4, _ => exact hs _ (List.mem_of_getElem? (i := 150) (by decide +kernel))
      | 5, _ => exact hs _ (List.mem_of_getElem? (i := 151) (by decide +kernel))
      | 6, _ => exact hs _ (List.mem_of_getElem? (i := 152) (by decide +kernel))
      | 7, _ => exact hs _ (List.mem_of_getElem? (i := 153) (by decide +kernel))
      | 8, _ => exact hs _ (List.mem_of_getElem? (i := 154) (by decide +kernel))
      | 9, _ => exact hs _ (List.mem_of_getElem? (i := 155) (by decide +kernel))
      | 10, _ => exact hs _ (List.mem_of_getElem? (i := 156) (by decide +kernel))
      | 11, _ => exact hs _ (List.mem_of_getElem? (i := 157) (by decide +kernel))
      | 12, _ => exact hs _ (List.mem_of_getElem? (i := 158) (by decide +kernel))
      | 13, _ => exact hs _ (List.mem_of_getElem? (i := 159) (by decide +kernel))
      | 14, _ => exact hs _ (List.mem_of_getElem? (i := 160) (by decide +kernel))
      | 15, _ => exact hs _ (List.mem_of_getElem? (i := 161) (by decide +kernel))
      | 16, _ => exact hs _ (List.mem_of_getElem? (i := 162) (by decide +kernel))
      | 17, _ => exact hs _ (List.mem_of_getElem? (i := 163) (by decide +kernel))
      | 18, _ => exact hs _ (List.mem_of_getElem? (i := 164) (by decide +kernel))
      | 19, _ => exact hs _ (List.mem_of_getElem? (i := 165) (by decide +kernel))
      | 20, _ => exact hs _ (List.mem_of_getElem? (i := 166) (by decide +kernel))
      | 21, _ => exact hs _ (List.mem_of_getElem? (i := 167) (by decide +kernel))
      | 22, _ => exact hs _ (List.mem_of_getElem? (i := 168) (by decide +kernel))
      | 23, _ => exact hs _ (List.mem_of_getElem? (i := 169) (by decide +kernel))
      | 24, _ => exact hs _ (List.mem_of_getElem? (i := 170) (by decide +kernel))
      | 25, _ => exact hs _ (List.mem_of_getElem? (i := 171) (by decide +kernel))
      | 26, _ => exact hs _ (List.mem_of_getElem? (i := 172) (by decide +kernel))
      | 27, _ => exact hs _ (List.mem_of_getElem? (i := 173) (by decide +kernel))
      | 28, _ => exact hs _ (List.mem_of_getElem? (i := 174) (by decide +kernel))
      | 29, _ => exact hs _ (List.mem_of_getElem? (i := 175) (by decide +kernel))
      | 30, _ => exact hs _ (List.mem_of_getElem? (i := 176) (by decide +kernel))
      | 31, _ => exact hs _ (List.mem_of_getElem? (i := 177) (by decide +kernel))
      | 32, _ => exact hs _ (List.mem_of_getElem? (i := 178) (by decide +kernel))
      | 33, _ => exact hs _ (List.mem_of_getElem? (i := 179) (by decide +kernel))
      | 34, _ => exact hs _ (List.mem_of_getElem? (i := 180) (by decide +kernel))
      | 35, _ => exact hs _ (List.mem_of_getElem? (i := 181) (by decide +kernel))
      | 36, _ => exact hs _ (List.mem_of_getElem? (i := 182) (by decide +kernel))
      | 37, _ => exact hs _ (List.mem_of_getElem? (i := 183) (by decide +kernel))
      | 38, _ => exact hs _ (List.mem_of_getElem? (i := 184) (by decide +kernel))
      | 39, _ => exact hs _ (List.mem_of_getElem? (i := 185) (by decide +kernel))
      | 40, _ => exact hs _ (List.mem_of_getElem? (i := 186) (by decide +kernel))
      | 41, _ => exact hs _ (List.mem_of_getElem? (i := 187) (by decide +kernel))
      | 42, _ => exact hs _ (List.mem_of_getElem? (i := 188) (by decide +kernel))
      | 43, _ => exact hs _ (List.mem_of_getElem? (i := 189) (by decide +kernel))
      | 44, _ => exact hs _ (List.mem_of_getElem? (i := 190) (by decide +kernel))
      | 45, _ => exact hs _ (List.mem_of_getElem? (i := 191) (by decide +kernel))
      | 46, _ => exact hs _ (List.mem_of_getElem? (i := 192) (by decide +kernel))
      | 47, _ => exact hs _ (List.mem_of_getElem? (i := 193) (by decide +kernel))
      | 48, _ => exact hs _ (List.mem_of_getElem? (i := 194) (by decide +kernel))
      | 49, _ => exact hs _ (List.mem_of_getElem? (i := 195) (by decide +kernel))
      | 50, _ => exact hs _ (List.mem_of_getElem? (i := 196) (by decide +kernel))
      | 51, _ => exact hs _ (List.mem_of_getElem? (i := 197) (by decide +kernel))
      | 52, _ => exact hs _ (List.mem_of_getElem? (i := 198) (by decide +kernel))
      | 53, _ => exact hs _ (List.mem_of_getElem? (i := 199) (by decide +kernel))
      | 54, _ => exact hs _ (List.mem_of_getElem? (i := 200) (by decide +kernel))
      | 55, _ => exact hs _ (List.mem_of_getElem? (i := 201) (by decide +kernel))
      | 56, _ => exact hs _ (List.mem_of_getElem? (i := 202) (by decide +kernel))
      | 57, _ => exact hs _ (List.mem_of_getElem? (i := 203) (by decide +kernel))
      | 58, _ => exact hs _ (List.mem_of_getElem? (i := 204) (by decide +kernel))
      | 59, _ => exact hs _ (List.mem_of_getElem? (i := 205) (by decide +kernel))
      | n + 60, h => exact absurd h (by omega)
    | 6, _ =>
      intro j hj
      have hj : j < 18 := hj
      match j, hj with
      | 0, _ => exact hs _ (List.mem_of_getElem? (i := 215) (by decide +kernel))
      | 1, _ => exact hs _ (List.mem_of_getElem? (i := 216) (by decide +kernel))
      | 2, _ => exact hs _ (List.mem_of_getElem? (i := 217) (by decide +kernel))
      | 3, _ => exact hs _ (List.mem_of_getElem? (i := 218) (by decide +kernel))
      | 4, _ => exact hs _ (List.mem_of_getElem? (i := 219) (by decide +kernel))
      | 5, _ => exact hs _ (List.mem_of_getElem? (i := 220) (by decide +kernel))
      | 6, _ => exact hs _ (List.mem_of_getElem? (i := 221) (by decide +kernel))
      | 7, _ => exact hs _ (List.mem_of_getElem? (i := 222) (by decide +kernel))
      | 8, _ => exact hs _ (List.mem_of_getElem? (i := 223) (by decide +kernel))
      | 9, _ => exact hs _ (List.mem_of_getElem? (i := 224) (by decide +kernel))
      | 10, _ => exact hs _ (List.mem_of_getElem? (i := 225) (by decide +kernel))
      | 11, _ => exact hs _ (List.mem_of_getElem? (i := 226) (by decide +kernel))
      | 12, _ => exact hs _ (List.mem_of_getElem? (i := 227) (by decide +kernel))
      | 13, _ => exact hs _ (List.mem_of_getElem? (i := 228) (by decide +kernel))
      | 14, _ => exact hs _ (List.mem_of_getElem? (i := 229) (by decide +kernel))
      | 15, _ => exact hs _ (List.mem_of_getElem? (i := 230) (by decide +kernel))
      | 16, _ => exact hs _ (List.mem_of_getElem? (i := 231) (by decide +kernel))
      | 17, _ => exact hs _ (List.mem_of_getElem? (i := 232) (by decide +kernel))
      | n + 18, h => exact absurd h (by omega)
    | 7, _ =>
      intro j hj
      have hj : j < 4 := hj
      match j, hj with
      | 0, _ => exact hs _ (List.mem_of_getElem? (i := 243) (by decide +kernel))
      | 1, _ => exact hs _ (List.mem_of_getElem? (i := 244) (by decide +kernel))
      | 2, _ => exact hs _ (List.mem_of_getElem? (i := 245) (by decide +kernel))
      | 3, _ => exact hs _ (List.mem_of_getElem? (i := 246) (by decide +kernel))
      | n + 4, h => exact absurd h (by omega)
    | 8, _ =>
      intro j hj
      have hj : j < 31 := hj
      match j, hj with
      | 0, _ => exact hs _ (List.mem_of_getElem? (i := 258) (by decide +kernel))
      | 1, _ => exact hs _ (List.mem_of_getElem? (i := 259) (by decide +kernel))
      | 2, _ => exact hs _ (List.mem_of_getElem? (i := 260) (by decide +kernel))
      | 3, _ => exact hs _ (List.mem_of_getElem? (i := 261) (by decide +kernel))
      | 4, _ => exact hs _ (List.mem_of_getElem? (i := 262) (by decide +kernel))
      | 5, _ => exact hs _ (List.mem_of_getElem? (i := 263) (by decide +kernel))
      | 6, _ => exact hs _ (List.mem_of_getElem? (i := 264) (by decide +kernel))
      | 7, _ => exact hs _ (List.mem_of_getElem? (i := 265) (by decide +kernel))
      | 8, _ => exact hs _ (List.mem_of_getElem? (i := 266) (by decide +kernel))
      | 9, _ => exact hs _ (List.mem_of_getElem? (i := 267) (by decide +kernel))
      | 10, _ => exact hs _ (List.mem_of_getElem? (i := 268) (by decide +kernel))
      | 11, _ => exact hs _ (List.mem_of_getElem? (i := 269) (by decide +kernel))
      | 12, _ => exact hs _ (List.mem_of_getElem? (i := 270) (by decide +kernel))
      | 13, _ => exact hs _ (List.mem_of_getElem? (i := 271) (by decide +kernel))
      | 14, _ => exact hs _ (List.mem_of_getElem? (i := 272) (by decide +kernel))
      | 15, _ => exact hs _ (List.mem_of_getElem? (i := 273) (by decide +kernel))
      | 16, _ => exact hs _ (List.mem_of_getElem? (i := 274) (by decide +kernel))
      | 17, _ => exact hs _ (List.mem_of_getElem? (i := 275) (by decide +kernel))
      | 18, _ => exact hs _ (List.mem_of_getElem? (i := 276) (by decide +kernel))
      | 19, _ => exact hs _ (List.mem_of_getElem? (i := 277) (by decide +kernel))
      | 20, _ => exact hs _ (List.mem_of_getElem? (i := 278) (by decide +kernel))
      | 21, _ => exact hs _ (List.mem_of_getElem? (i := 279) (by decide +kernel))
      | 22, _ => exact hs _ (List.mem_of_getElem? (i := 280) (by decide +kernel))
      | 23, _ => exact hs _ (List.mem_of_getElem? (i := 281) (by decide +kernel))
      | 24, _ => exact hs _ (List.mem_of_getElem? (i := 282) (by decide +kernel))
      | 25, _ => exact hs _ (List.mem_of_getElem? (i := 283) (by decide +kernel))
      | 26, _ => exact hs _ (List.mem_of_getElem? (i := 284) (by decide +kernel))
      | 27, _ => exact hs _ (List.mem_of_getElem? (i := 285) (by decide +kernel))
      | 28, _ => exact hs _ (List.mem_of_getElem? (i := 286) (by decide +kernel))
      | 29, _ => exact hs _ (List.mem_of_getElem? (i := 287) (by decide +kernel))
      | 30, _ => exact hs _ (List.mem_of_getElem? (i := 288) (by decide +kernel))
      | n + 31, h => exact absurd h (by omega)
    | 9, _ =>
      intro j hj
      have hj : j < 2 := hj
      match j, hj with
      | 0, _ => exact hs _ (List.mem_of_getElem? (i := 301) (by decide +kernel))
      | 1, _ => exact hs _ (List.mem_of_getElem? (i := 302) (by decide +kernel))
      | n + 2, h => exact absurd h (by omega)
    | 10, _ =>
      intro j hj
      have hj : j < 12 := hj
      match j, hj with
      | 0, _ => exact hs _ (List.mem_of_getElem? (i := 316) (by decide +kernel))
      | 1, _ => exact hs _ (List.mem_of_getElem? (i := 317) (by decide +kernel))
      | 2, _ => exact hs _ (List.mem_of_getElem? (i := 318) (by decide +kernel))
      | 3, _ => exact hs _ (List.mem_of_getElem? (i := 319) (by decide +kernel))
      | 4, _ => exact hs _ (List.mem_of_getElem? (i := 320) (by decide +kernel))
      | 5, _ => exact hs _ (List.mem_of_getElem? (i := 321) (by decide +kernel))
      | 6, _ => exact hs _ (List.mem_of_getElem? (i := 322) (by decide +kernel))
      | 7, _ => exact hs _ (List.mem_of_getElem? (i := 323) (by decide +kernel))
      | 8, _ => exact hs _ (List.mem_of_getElem? (i := 324) (by decide +kernel))
      | 9, _ => exact hs _ (List.mem_of_getElem? (i := 325) (by decide +kernel))
      | 10, _ => exact hs _ (List.mem_of_getElem? (i := 326) (by decide +kernel))
      | 11, _ => exact hs _ (List.mem_of_getElem? (i := 327) (by decide +kernel))
      | n + 12, h => exact absurd h (by omega)
    | 11, _ =>
      intro j hj
      have hj : j < 2 := hj
      match j, hj with
      | 0, _ => exact hs _ (List.mem_of_getElem? (i := 342) (by decide +kernel))
      | 1, _ => exact hs _ (List.mem_of_getElem? (i := 343) (by decide +kernel))
      | n + 2, h => exact absurd h (by omega)
    | n + 12, h => exact absurd h (by omega)
  · intro i j hi hj hij
    match i, hi, hij with
    | 0, _, hij =>
      match j, hj, hij with
      | 0, _, h => exact absurd rfl h
      | 1, _, _ => exact Or.inl (hs _ (List.mem_of_getElem? (i := 59) (by decide +kernel)))
      | 2, _, _ => exact Or.inl (hs _ (List.mem_of_getElem? (i := 67) (by decide +kernel)))
      | 3, _, _ => exact Or.inl (hs _ (List.mem_of_getElem? (i := 76) (by decide +kernel)))
      | 4, _, _ => exact Or.inl (hs _ (List.mem_of_getElem? (i := 138) (by decide +kernel)))
      | 5, _, _ => exact Or.inl (hs _ (List.mem_of_getElem? (i := 206) (by decide +kernel)))
      | 6, _, _ => exact Or.inl (hs _ (List.mem_of_getElem? (i := 233) (by decide +kernel)))
      | 7, _, _ => exact Or.inl (hs _ (List.mem_of_getElem? (i := 247) (by decide +kernel)))
      | 8, _, _ => exact Or.inl (hs _ (List.mem_of_getElem? (i := 289) (by decide +kernel)))
      | 9, _, _ => exact Or.inl (hs _ (List.mem_of_getElem? (i := 303) (by decide +kernel)))
      | 10, _, _ => exact Or.inl (hs _ (List.mem_of_getElem? (i := 328) (by decide +kernel)))
      | 11, _, _ => exact Or.inl (hs _ (List.mem_of_getElem? (i := 344) (by decide +kernel)))
      | n + 12, h, _ => exact absurd h (by omega)
    | 1, _, hij =>
      match j, hj, hij with
      | 0, _, _ => exact Or.inr (hs _ (List.mem_of_getElem? (i := 59) (by decide +kernel)))
      | 1, _, h => exact absurd rfl h
      | 2, _, _ => exact Or.inl (hs _ (List.mem_of_getElem? (i := 68) (by decide +kernel)))
      | 3, _, _ => exact Or.inl (hs _ (List.mem_of_getElem? (i := 77) (by decide +kernel)))
      | 4, _, _ => exact Or.inl (hs _ (List.mem_of_getElem? (i := 139) (by decide +kernel)))
      | 5, _, _ => exact Or.inl (hs _ (List.mem_of_getElem? (i := 207) (by decide +kernel)))
      | 6, _, _ => exact Or.inl (hs _ (List.mem_of_getElem? (i := 234) (by decide +kernel)))
      | 7, _, _ => exact Or.inl (hs _ (List.mem_of_getElem? (i := 248) (by decide +kernel)))
      | 8, _, _ => exact Or.inl (hs _ (List.mem_of_getElem? (i := 290) (by decide +kernel)))
      | 9, _, _ => exact Or.inl (hs _ (List.mem_of_getElem? (i := 304) (by decide +kernel)))
      | 10, _, _ => exact Or.inl (hs _ (List.mem_of_getElem? (i := 329) (by decide +kernel)))
      | 11, _, _ => exact Or.inl (hs _ (List.mem_of_getElem? (i := 345) (by decide +kernel)))
      | n + 12, h, _ => exact absurd h (by omega)
    | 2, _, hij =>
      match j, hj, hij with
      | 0, _, _ => exact Or.inr (hs _ (List.mem_of_getElem? (i := 67) (by decide +kernel)))
      | 1, _, _ => exact Or.inr (hs _ (List.mem_of_getElem? (i := 68) (by decide +kernel)))
      | 2, _, h => exact absurd rfl h
      | 3, _, _ => exact Or.inl (hs _ (List.mem_of_getElem? (i := 78) (by decide +kernel)))
      | 4, _, _ => exact Or.inl (hs _ (List.mem_of_getElem? (i := 140) (by decide +kernel)))
      | 5, _, _ => exact Or.inl (hs _ (List.mem_of_getElem? (i := 208) (by decide +kernel)))
      | 6, _, _ => exact Or.inl (hs _ (List.mem_of_getElem? (i := 235) (by decide +kernel)))
      | 7, _, _ => exact Or.inl (hs _ (List.mem_of_getElem? (i := 249) (by decide +kernel)))
      | 8, _, _ => exact Or.inl (hs _ (List.mem_of_getElem? (i := 291) (by decide +kernel)))
      | 9, _, _ => exact Or.inl (hs _ (List.mem_of_getElem? (i := 305) (by decide +kernel)))
      | 10, _, _ => exact Or.inl (hs _ (List.mem_of_getElem? (i := 330) (by decide +kernel)))
      | 11, _, _ => exact Or.inl (hs _ (List.mem_of_getElem? (i := 346) (by decide +kernel)))
      | n + 12, h, _ => exact absurd h (by omega)
    | 3, _, hij =>
      match j, hj, hij with
      | 0, _, _ => exact Or.inr (hs _ (List.mem_of_getElem? (i := 76) (by decide +kernel)))
      | 1, _, _ => exact Or.inr (hs _ (List.mem_of_getElem? (i := 77) (by decide +kernel)))
      | 2, _, _ => exact Or.inr (hs _ (List.mem_of_getElem? (i := 78) (by decide +kernel)))
      | 3, _, h => exact absurd rfl h
      | 4, _, _ => exact Or.inl (hs _ (List.mem_of_getElem? (i := 141) (by decide +kernel)))
      | 5, _, _ => exact Or.inl (hs _ (List.mem_of_getElem? (i := 209) (by decide +kernel)))
      | 6, _, _ => exact Or.inl (hs _ (List.mem_of_getElem? (i := 236) (by decide +kernel)))
      | 7, _, _ => exact Or.inl (hs _ (List.mem_of_getElem? (i := 250) (by decide +kernel)))
      | 8, _, _ => exact Or.inl (hs _ (List.mem_of_getElem? (i := 292) (by decide +kernel)))
      | 9, _, _ => exact Or.inl (hs _ (List.mem_of_getElem? (i := 306) (by decide +kernel)))
      | 10, _, _ => exact Or.inl (hs _ (List.mem_of_getElem? (i := 331) (by decide +kernel)))
      | 11, _, _ => exact Or.inl (hs _ (List.mem_of_getElem? (i := 347) (by decide +kernel)))
      | n + 12, h, _ => exact absurd h (by omega)
    | 4, _, hij =>
      match j, hj, hij with
      | 0, _, _ => exact Or.inr (hs _ (List.mem_of_getElem? (i := 138) (by decide +kernel)))
      | 1, _, _ => exact Or.inr (hs _ (List.mem_of_getElem? (i := 139) (by decide +kernel)))
      | 2, _, _ => exact Or.inr (hs _ (List.mem_of_getElem? (i := 140) (by decide +kernel)))
      | 3, _, _ => exact Or.inr (hs _ (List.mem_of_getElem? (i := 141) (by decide +kernel)))
      | 4, _, h => exact absurd rfl h
      | 5, _, _ => exact Or.inl (hs _ (List.mem_of_getElem? (i := 210) (by decide +kernel)))
      | 6, _, _ => exact Or.inl (hs _ (List.mem_of_getElem? (i := 237) (by decide +kernel)))
      | 7, _, _ => exact Or.inl (hs _ (List.mem_of_getElem? (i := 251) (by decide +kernel)))
      | 8, _, _ => exact Or.inl (hs _ (List.mem_of_getElem? (i := 293) (by decide +kernel)))
      | 9, _, _ => exact Or.inl (hs _ (List.mem_of_getElem? (i := 307) (by decide +kernel)))
      | 10, _, _ => exact Or.inl (hs _ (List.mem_of_getElem? (i := 332) (by decide +kernel)))
      | 11, _, _ => exact Or.inl (hs _ (List.mem_of_getElem? (i := 348) (by decide +kernel)))
      | n + 12, h, _ => exact absurd h (by omega)
    | 5, _, hij =>
      match j, hj, hij with
      | 0, _, _ => exact Or.inr (hs _ (List.mem_of_getElem? (i := 206) (by decide +kernel)))
      | 1, _, _ => exact Or.inr (hs _ (List.mem_of_getElem? (i := 207) (by decide +kernel)))
      | 2, _, _ => exact Or.inr (hs _ (List.mem_of_getElem? (i := 208) (by decide +kernel)))
      | 3, _, _ => exact Or.inr (hs _ (List.mem_of_getElem? (i := 209) (by decide +kernel)))
      | 4, _, _ => exact Or.inr (hs _ (List.mem_of_getElem? (i := 210) (by decide +kernel)))
      | 5, _, h => exact absurd rfl h
      | 6, _, _ => exact Or.inl (hs _ (List.mem_of_getElem? (i := 238) (by decide +kernel)))
      | 7, _, _ => exact Or.inl (hs _ (List.mem_of_getElem? (i := 252) (by decide +kernel)))
      | 8, _, _ => exact Or.inl (hs _ (List.mem_of_getElem? (i := 294) (by decide +kernel)))
      | 9, _, _ => exact Or.inl (hs _ (List.mem_of_getElem? (i := 308) (by decide +kernel)))
      | 10, _, _ => exact Or.inl (hs _ (List.mem_of_getElem? (i := 333) (by decide +kernel)))
      | 11, _, _ => exact Or.inl (hs _ (List.mem_of_getElem? (i := 349) (by decide +kernel)))
      | n + 12, h, _ => exact absurd h (by omega)
    | 6, _, hij =>
      match j, hj, hij with
      | 0, _, _ => exact Or.inr (hs _ (List.mem_of_getElem? (i := 233) (by decide +kernel)))
      | 1, _, _ => exact Or.inr (hs _ (List.mem_of_getElem? (i := 234) (by decide +kernel)))
      | 2, _, _ => exact Or.inr (hs _ (List.mem_of_getElem? (i := 235) (by decide +kernel)))
      | 3, _, _ => exact Or.inr (hs _ (List.mem_of_getElem? (i := 236) (by decide +kernel)))
      | 4, _, _ => exact Or.inr (hs _ (List.mem_of_getElem? (i := 237) (by decide +kernel)))
      | 5, _, _ => exact Or.inr (hs _ (List.mem_of_getElem? (i := 238) (by decide +kernel)))
      | 6, _, h => exact absurd rfl h
      | 7, _, _ => exact Or.inl (hs _ (List.mem_of_getElem? (i := 253) (by decide +kernel)))
      | 8, _, _ => exact Or.inl (hs _ (List.mem_of_getElem? (i := 295) (by decide +kernel)))
      | 9, _, _ => exact Or.inl (hs _ (List.mem_of_getElem? (i := 309) (by decide +kernel)))
      | 10, _, _ => exact Or.inl (hs _ (List.mem_of_getElem? (i := 334) (by decide +kernel)))
      | 11, _, _ => exact Or.inl (hs _ (List.mem_of_getElem? (i := 350) (by decide +kernel)))
      | n + 12, h, _ => exact absurd h (by omega)
    | 7, _, hij =>
      match j, hj, hij with
      | 0, _, _ => exact Or.inr (hs _ (List.mem_of_getElem? (i := 247) (by decide +kernel)))
      | 1, _, _ => exact Or.inr (hs _ (List.mem_of_getElem? (i := 248) (by decide +kernel)))
      | 2, _, _ => exact Or.inr (hs _ (List.mem_of_getElem? (i := 249) (by decide +kernel)))
      | 3, _, _ => exact Or.inr (hs _ (List.mem_of_getElem? (i := 250) (by decide +kernel)))
      | 4, _, _ => exact Or.inr (hs _ (List.mem_of_getElem? (i := 251) (by decide +kernel)))
      | 5, _, _ => exact Or.inr (hs _ (List.mem_of_getElem? (i := 252) (by decide +kernel)))
      | 6, _, _ => exact Or.inr (hs _ (List.mem_of_getElem? (i := 253) (by decide +kernel)))
      | 7, _, h => exact absurd rfl h
      | 8, _, _ => exact Or.inl (hs _ (List.mem_of_getElem? (i := 296) (by decide +kernel)))
      | 9, _, _ => exact Or.inl (hs _ (List.mem_of_getElem? (i := 310) (by decide +kernel)))
      | 10, _, _ => exact Or.inl (hs _ (List.mem_of_getElem? (i := 335) (by decide +kernel)))
      | 11, _, _ => exact Or.inl (hs _ (List.mem_of_getElem? (i := 351) (by decide +kernel)))
      | n + 12, h, _ => exact absurd h (by omega)
    | 8, _, hij =>
      match j, hj, hij with
      | 0, _, _ => exact Or.inr (hs _ (List.mem_of_getElem? (i := 289) (by decide +kernel)))
      | 1, _, _ => exact Or.inr (hs _ (List.mem_of_getElem? (i := 290) (by decide +kernel)))
      | 2, _, _ => exact Or.inr (hs _ (List.mem_of_getElem? (i := 291) (by decide +kernel)))
      | 3, _, _ => exact Or.inr (hs _ (List.mem_of_getElem? (i := 292) (by decide +kernel)))
      | 4, _, _ => exact Or.inr (hs _ (List.mem_of_getElem? (i := 293) (by decide +kernel)))
      | 5, _, _ => exact Or.inr (hs _ (List.mem_of_getElem? (i := 294) (by decide +kernel)))
      | 6, _, _ => exact Or.inr (hs _ (List.mem_of_getElem? (i := 295) (by decide +kernel)))
      | 7, _, _ => exact Or.inr (hs _ (List.mem_of_getElem? (i := 296) (by decide +kernel)))
      | 8, _, h => exact absurd rfl h
      | 9, _, _ => exact Or.inl (hs _ (List.mem_of_getElem? (i := 311) (by decide +kernel)))
      | 10, _, _ => exact Or.inl (hs _ (List.mem_of_getElem? (i := 336) (by decide +kernel)))
      | 11, _, _ => exact Or.inl (hs _ (List.mem_of_getElem? (i := 352) (by decide +kernel)))
      | n + 12, h, _ => exact absurd h (by omega)
    | 9, _, hij =>
      match j, hj, hij with
      | 0, _, _ => exact Or.inr (hs _ (List.mem_of_getElem? (i := 303) (by decide +kernel)))
      | 1, _, _ => exact Or.inr (hs _ (List.mem_of_getElem? (i := 304) (by decide +kernel)))
      | 2, _, _ => exact Or.inr (hs _ (List.mem_of_getElem? (i := 305) (by decide +kernel)))
      | 3, _, _ => exact Or.inr (hs _ (List.mem_of_getElem? (i := 306) (by decide +kernel)))
      | 4, _, _ => exact Or.inr (hs _ (List.mem_of_getElem? (i := 307) (by decide +kernel)))
      | 5, _, _ => exact Or.inr (hs _ (List.mem_of_getElem? (i := 308) (by decide +kernel)))
      | 6, _, _ => exact Or.inr (hs _ (List.mem_of_getElem? (i := 309) (by decide +kernel)))
      | 7, _, _ => exact Or.inr (hs _ (List.mem_of_getElem? (i := 310) (by decide +kernel)))
      | 8, _, _ => exact Or.inr (hs _ (List.mem_of_getElem? (i := 311) (by decide +kernel)))
      | 9, _, h => exact absurd rfl h
      | 10, _, _ => exact Or.inl (hs _ (List.mem_of_getElem? (i := 337) (by decide +kernel)))
      | 11, _, _ => exact Or.inl (hs _ (List.mem_of_getElem? (i := 353) (by decide +kernel)))
      | n + 12, h, _ => exact absurd h (by omega)
    | 10, _, hij =>
      match j, hj, hij with
      | 0, _, _ => exact Or.inr (hs _ (List.mem_of_getElem? (i := 328) (by decide +kernel)))
      | 1, _, _ => exact Or.inr (hs _ (List.mem_of_getElem? (i := 329) (by decide +kernel)))
      | 2, _, _ => exact Or.inr (hs _ (List.mem_of_getElem? (i := 330) (by decide +kernel)))
      | 3, _, _ => exact Or.inr (hs _ (List.mem_of_getElem? (i := 331) (by decide +kernel)))
      | 4, _, _ => exact Or.inr (hs _ (List.mem_of_getElem? (i := 332) (by decide +kernel)))
      | 5, _, _ => exact Or.inr (hs _ (List.mem_of_getElem? (i := 333) (by decide +kernel)))
      | 6, _, _ => exact Or.inr (hs _ (List.mem_of_getElem? (i := 334) (by decide +kernel)))
      | 7, _, _ => exact Or.inr (hs _ (List.mem_of_getElem? (i := 335) (by decide +kernel)))
      | 8, _, _ => exact Or.inr (hs _ (List.mem_of_getElem? (i := 336) (by decide +kernel)))
      | 9, _, _ => exact Or.inr (hs _ (List.mem_of_getElem? (i := 337) (by decide +kernel)))
      | 10, _, h => exact absurd rfl h
      | 11, _, _ => exact Or.inl (hs _ (List.mem_of_getElem? (i := 354) (by decide +kernel)))
      | n + 12, h, _ => exact absurd h (by omega)
    | 11, _, hij =>
      match j, hj, hij with
      | 0, _, _ => exact Or.inr (hs _ (List.mem_of_getElem? (i := 344) (by decide +kernel)))
      | 1, _, _ => exact Or.inr (hs _ (List.mem_of_getElem? (i := 345) (by decide +kernel)))
      | 2, _, _ => exact Or.inr (hs _ (List.mem_of_getElem? (i := 346) (by decide +kernel)))
      | 3, _, _ => exact Or.inr (hs _ (List.mem_of_getElem? (i := 347) (by decide +kernel)))
      | 4, _, _ => exact Or.inr (hs _ (List.mem_of_getElem? (i := 348) (by decide +kernel)))
      | 5, _, _ => exact Or.inr (hs _ (List.mem_of_getElem? (i := 349) (by decide +kernel)))
      | 6, _, _ => exact Or.inr (hs _ (List.mem_of_getElem? (i := 350) (by decide +kernel)))
      | 7, _, _ => exact Or.inr (hs _ (List.mem_of_getElem? (i := 351) (by decide +kernel)))
      | 8, _, _ => exact Or.inr (hs _ (List.mem_of_getElem? (i := 352) (by decide +kernel)))
      | 9, _, _ => exact Or.inr (hs _ (List.mem_of_getElem? (i := 353) (by decide +kernel)))
      | 10, _, _ => exact Or.inr (hs _ (List.mem_of_getElem? (i := 354) (by decide +kernel)))
      | 11, _, h => exact absurd rfl h
      | n + 12, h, _ => exact absurd h (by omega)
    | n + 12, h, _ => exact absurd h (by omega)
theorem mm_cnt (hts : ∀ w ∈ lw_tbl, w.before args s = true) : ∀ k : Nat, ∃ x : ClassId × (Nat → Nat), ∀ q : vw_C, mm_cls[k]? = some q → u_Kn s q.1 q.2.1 q.2.2 x.1 x.2 := by
  intro k
  match k with
  | 0 =>
    obtain ⟨c, iS, h⟩ := u_known (C := "FewRectangles$ConditionReader") (T := mm_F0) (N := 3) (n := 3) hts (fun w hw => (List.mem_filter.mp (mm_I0 w hw)).1) (hts _ (List.mem_of_getElem? (i := 474) (by decide +kernel)))
    exact ⟨(c, iS), fun q hq => by cases hq; exact h⟩
  | 1 =>
    obtain ⟨c, iS, h⟩ := u_known (C := "FewRectangles$Cover") (T := mm_F1) (N := 11) (n := 11) hts (fun w hw => (List.mem_filter.mp (mm_I1 w hw)).1) (hts _ (List.mem_of_getElem? (i := 397) (by decide +kernel)))
    exact ⟨(c, iS), fun q hq => by cases hq; exact h⟩
  | 2 =>
    obtain ⟨c, iS, h⟩ := u_known (C := "FewRectangles$Editor") (T := mm_F2) (N := 2) (n := 2) hts (fun w hw => (List.mem_filter.mp (mm_I2 w hw)).1) (hts _ (List.mem_of_getElem? (i := 281) (by decide +kernel)))
    exact ⟨(c, iS), fun q hq => by cases hq; exact h⟩
  | 3 =>
    obtain ⟨c, iS, h⟩ := u_known (C := "FewRectangles$History") (T := mm_F3) (N := 5) (n := 5) hts (fun w hw => (List.mem_filter.mp (mm_I3 w hw)).1) (hts _ (List.mem_of_getElem? (i := 148) (by decide +kernel)))
    exact ⟨(c, iS), fun q hq => by cases hq; exact h⟩
  | 4 =>
    obtain ⟨c, iS, h⟩ := u_known (C := "FewRectangles$Probe") (T := mm_F4) (N := 11) (n := 11) hts (fun w hw => (List.mem_filter.mp (mm_I4 w hw)).1) (hts _ (List.mem_of_getElem? (i := 318) (by decide +kernel)))
    exact ⟨(c, iS), fun q hq => by cases hq; exact h⟩
  | 5 =>
    obtain ⟨c, iS, h⟩ := u_known (C := "FewRectangles$ProgramReader") (T := mm_F5) (N := 4) (n := 4) hts (fun w hw => (List.mem_filter.mp (mm_I5 w hw)).1) (hts _ (List.mem_of_getElem? (i := 490) (by decide +kernel)))
    exact ⟨(c, iS), fun q hq => by cases hq; exact h⟩
  | 6 =>
    obtain ⟨c, iS, h⟩ := u_known (C := "FewRectangles$Rule") (T := mm_F6) (N := 8) (n := 8) hts (fun w hw => (List.mem_filter.mp (mm_I6 w hw)).1) (hts _ (List.mem_of_getElem? (i := 162) (by decide +kernel)))
    exact ⟨(c, iS), fun q hq => by cases hq; exact h⟩
  | 7 =>
    obtain ⟨c, iS, h⟩ := u_known (C := "FewRectangles$Runner") (T := mm_F7) (N := 5) (n := 5) hts (fun w hw => (List.mem_filter.mp (mm_I7 w hw)).1) (hts _ (List.mem_of_getElem? (i := 296) (by decide +kernel)))
    exact ⟨(c, iS), fun q hq => by cases hq; exact h⟩
  | 8 =>
    obtain ⟨c, iS, h⟩ := u_known (C := "FewRectangles$Sheet") (T := mm_F8) (N := 9) (n := 9) hts (fun w hw => (List.mem_filter.mp (mm_I8 w hw)).1) (hts _ (List.mem_of_getElem? (i := 155) (by decide +kernel)))
    exact ⟨(c, iS), fun q hq => by cases hq; exact h⟩
  | 9 =>
    obtain ⟨c, iS, h⟩ := u_known (C := "FewRectangles$Tape") (T := mm_F9) (N := 6) (n := 6) hts (fun w hw => (List.mem_filter.mp (mm_I9 w hw)).1) (hts _ (List.mem_of_getElem? (i := 443) (by decide +kernel)))
    exact ⟨(c, iS), fun q hq => by cases hq; exact h⟩
  | 10 =>
    obtain ⟨c, iS, h⟩ := u_known (C := "FewRectangles$View") (T := mm_F10) (N := 10) (n := 10) hts (fun w hw => (List.mem_filter.mp (mm_I10 w hw)).1) (hts _ (List.mem_of_getElem? (i := 358) (by decide +kernel)))
    exact ⟨(c, iS), fun q hq => by cases hq; exact h⟩
  | 11 =>
    obtain ⟨c, iS, h⟩ := u_known (C := "FewRectangles") (T := mm_F11) (N := 17) (n := 17) hts (fun w hw => (List.mem_filter.mp (mm_I11 w hw)).1) (hts _ (List.mem_of_getElem? (i := 140) (by decide +kernel)))
    exact ⟨(c, iS), fun q hq => by cases hq; exact h⟩
  | 12 =>
    obtain ⟨c, iS, h⟩ := u_known (C := "FewRectanglesModel") (T := mm_F12) (N := 51) (n := 51) hts (fun w hw => (List.mem_filter.mp (mm_I12 w hw)).1) (hts _ (List.mem_of_getElem? (i := 1591) (by decide +kernel)))
    exact ⟨(c, iS), fun q hq => by cases hq; exact h⟩
  | n + 13 => exact ⟨(0, fun _ => 0), fun q hq => by simp [mm_cls] at hq⟩
theorem mm_aK {ty : FieldType} (h : (Cond.arrayClass ty).before args s = true) (hp : ∀ C, ty ≠ .object C) : ∃ cA : ClassId, ArrOfT s cA ty ∧ va_RA s cA ty := by
  obtain ⟨c, k, comp, h1, h2, h3⟩ := Cond.arrayClass_spec h
  refine ⟨c, fun N z => ⟨(fun _ h => by cases h), k, h2, comp, h3⟩, ?_⟩
  cases ty with
  | object C => exact absurd rfl (hp C)
  | _ => exact h1
theorem mm_oK {C : String} (h : (Cond.arrayOver (.object C)).before args s = true) : ∃ cA : ClassId, ArrOfT s cA (.object C) ∧ va_RA s cA (.object C) := by
  obtain ⟨comp, c, k, h1, h2, h3, h4, h5⟩ := Cond.arrayOver_spec h
  exact ⟨c, fun N z => ⟨(fun _ h => by cases h), k, h3, comp, h4⟩, k, comp, h3, h4, h1, h5⟩
theorem mm_iK (h : (Cond.arrayOver (.array .int)).before args s = true) : ∃ cA : ClassId, ArrOfT s cA (.array .int) ∧ va_RA s cA (.array .int) := by
  obtain ⟨comp, c, k, h1, h2, h3, h4, h5⟩ := arrayOverA_spec h
  exact ⟨c, fun N z => ⟨(fun _ h => by cases h), k, h3, comp, h4⟩, h5⟩
/-- where what was there before lies -/
def mm_old (b : Nat) (adK adV : Nat → Nat) (z : Int) : Nat := if z = -1 then b else if z % 2 = 0 then adK ((-z - 10) / 2).toNat else adV ((-z - 11) / 2).toNat
theorem mm_old_K {b : Nat} {adK adV : Nat → Nat} (i : Nat) : mm_old b adK adV (-(10 + 2 * (i : Int))) = adK i := by
  unfold mm_old
  rw [if_neg (by omega), if_pos (by omega)]
  congr 1
  omega
theorem mm_old_V {b : Nat} {adK adV : Nat → Nat} (i : Nat) : mm_old b adK adV (-(11 + 2 * (i : Int))) = adV i := by
  unfold mm_old
  rw [if_neg (by omega), if_neg (by omega)]
  congr 1
  omega
theorem mm_old_1 {b : Nat} {adK adV : Nat → Nat} : mm_old b adK adV (-1) = b := rfl
set_option maxRecDepth 20000 in
theorem mm_env {b L : Nat} {xs : Nat → Int32} (hts : ∀ w ∈ lw_tbl, w.before args s = true) (hgv : (Jvm.Cond.and given_1 narrow_1).before args s = true) (hX : va_X b L xs s s.heap) (hbl : b < s.heap.size) : ∃ (D : va_G) (tys : List (ClassId × FieldType)) (old : Int → Nat), mm_Env D tys s.heap.size old L xs s ∧ old (-1) = b := by
  have hs := flat_of_before _ hgv
  have hA : ∀ a : Nat, a < s.heap.size → ¬ mm_A s.heap.size a := fun a h => by unfold mm_A; omega
  obtain ⟨adK, adV, hS, hR⟩ := mm_strs hs hA
  obtain ⟨f, hf⟩ := Classical.axiomOfChoice (mm_cnt hts)
  obtain ⟨c50, a50, r50⟩ := mm_aK (ty := .int) (hts _ (List.mem_of_getElem? (i := 216) (by decide +kernel))) (fun C h => by cases h)
  obtain ⟨c51, a51, r51⟩ := mm_aK (ty := .short) (hts _ (List.mem_of_getElem? (i := 565) (by decide +kernel))) (fun C h => by cases h)
  obtain ⟨c52, a52, r52⟩ := mm_aK (ty := .boolean) (hts _ (List.mem_of_getElem? (i := 1763) (by decide +kernel))) (fun C h => by cases h)
  obtain ⟨c53, a53, r53⟩ := mm_aK (ty := .long) (hts _ (List.mem_of_getElem? (i := 1762) (by decide +kernel))) (fun C h => by cases h)
  have o107 : (Cond.arrayOver (.object "FewRectangles$Rule")).before args s = true := hts _ (List.mem_of_getElem? (i := 161) (by decide +kernel))
  have o109 : (Cond.arrayOver (.object "FewRectangles$Sheet")).before args s = true := hts _ (List.mem_of_getElem? (i := 154) (by decide +kernel))
  have o150 : (Cond.arrayOver (.array .int)).before args s = true := hts _ (List.mem_of_getElem? (i := 509) (by decide +kernel))
  obtain ⟨c107, a107, r107⟩ := mm_oK o107
  obtain ⟨c109, a109, r109⟩ := mm_oK o109
  obtain ⟨c150, a150, r150⟩ := mm_iK o150
  refine ⟨(fun k => (f k).1, fun k => (f k).2), [(c50, .int), (c51, .short), (c52, .boolean), (c53, .long), (c107, .object "FewRectangles$Rule"), (c109, .object "FewRectangles$Sheet"), (c150, .array .int)], mm_old b adK adV, ⟨⟨fun k q hq => hf k q hq, ?_⟩, ?_, Nat.le_refl _, ⟨hX, hbl⟩, ?_, ?_, ?_, ?_, ?_, va_AO.of o107, va_AO.of o109, o150⟩, rfl⟩
  · intro k q hq
    match k, hq with
    | 0, hq => cases hq; exact ⟨a50, r50⟩
    | 1, hq => cases hq; exact ⟨a51, r51⟩
    | 2, hq => cases hq; exact ⟨a52, r52⟩
    | 3, hq => cases hq; exact ⟨a53, r53⟩
    | 4, hq => cases hq; exact ⟨a107, r107⟩
    | 5, hq => cases hq; exact ⟨a109, r109⟩
    | 6, hq => cases hq; exact ⟨a150, r150⟩
    | n + 7, hq => simp at hq
  · rintro k (rfl | rfl | rfl | rfl | rfl | rfl | rfl) <;> rfl
  · have e1 : (fun i : Nat => mm_old b adK adV (-(10 + 2 * (i : Int)))) = adK := funext fun i => mm_old_K i
    have e2 : (fun i : Nat => mm_old b adK adV (-(11 + 2 * (i : Int)))) = adV := funext fun i => mm_old_V i
    rw [e1, e2]
    exact hS
  · intro i hi
    rw [mm_old_K]
    refine vk_R.of (A := args) ?_ (hR i hi)
    match i, hi with
    | 0, _ => exact hts _ (List.mem_of_getElem? (i := 843) (by decide +kernel))
    | 1, _ => exact hts _ (List.mem_of_getElem? (i := 934) (by decide +kernel))
    | 2, _ => exact hts _ (List.mem_of_getElem? (i := 935) (by decide +kernel))
    | 3, _ => exact hts _ (List.mem_of_getElem? (i := 978) (by decide +kernel))
    | 4, _ => exact hts _ (List.mem_of_getElem? (i := 1020) (by decide +kernel))
    | 5, _ => exact hts _ (List.mem_of_getElem? (i := 1518) (by decide +kernel))
    | 6, _ => exact hts _ (List.mem_of_getElem? (i := 1533) (by decide +kernel))
    | 7, _ => exact hts _ (List.mem_of_getElem? (i := 1534) (by decide +kernel))
    | 8, _ => exact hts _ (List.mem_of_getElem? (i := 1541) (by decide +kernel))
    | 9, _ => exact hts _ (List.mem_of_getElem? (i := 1543) (by decide +kernel))
    | 10, _ => exact hts _ (List.mem_of_getElem? (i := 1548) (by decide +kernel))
    | 11, _ => exact hts _ (List.mem_of_getElem? (i := 1549) (by decide +kernel))
    | n + 12, h => exact absurd h (by omega)
  · exact va_Zof (hts _ (List.mem_of_getElem? (i := 857) (by decide +kernel))) (hts _ (List.mem_of_getElem? (i := 134) (by decide +kernel))) (va_eqi (hs _ (List.mem_of_getElem? (i := 4) (by decide +kernel)))) hA
  · exact va_Zqof (hts _ (List.mem_of_getElem? (i := 896) (by decide +kernel))) (hts _ (List.mem_of_getElem? (i := 137) (by decide +kernel))) (hs _ (List.mem_of_getElem? (i := 5) (by decide +kernel))) hA
  · intro own i y host hm
    exact va_Nw.of rfl (hts _ hm)
end MM
/-- the world at the law's entry -/
def mm_w0 (L : Nat) : mm_W := (fun a => if a = -1 then (50, (L : Int)) else if -33 ≤ a ∧ a ≤ -10 then (if a % 2 = 0 then (14, 2) else (54, ((mm_nth 0 ((-a - 11) / 2).toNat mm_sl : Nat) : Int))) else (0, 0), 1, 0)
def mm_h0 (scr : Nat → Int32) : mm_H := fun a j => if a = -1 then (scr j.toNat).toInt else if a % 2 = 0 then (if j = 0 then a - 1 else 0) else ((mm_nth [] ((-a - 11) / 2).toNat mm_sb).getD j.toNat 0).toInt
theorem mm_neg0 {L : Nat} {scr : Nat → Int32} (hL : L ≤ 3072) : mm_neg L scr (mm_w0 L) (mm_h0 scr) := by
  refine ⟨rfl, by omega, fun j hj => ?_, fun i hi => ⟨?_, ?_, ?_, ?_, ?_⟩, ?_⟩
  · show (scr (j : Int).toNat).toInt = _
    rfl
  · show (if _ then _ else if _ then (if _ then _ else _) else _) = _
    rw [if_neg (by omega), if_pos (by omega), if_pos (by omega)]
  · show (if _ then _ else if _ then (if _ then _ else _) else _) = _
    rw [if_neg (by omega), if_pos (by omega), if_pos rfl]
    omega
  · show (if _ then _ else if _ then (if _ then _ else _) else _) = _
    rw [if_neg (by omega), if_pos (by omega), if_neg (by omega)]
  · show (if _ then _ else if _ then (if _ then _ else _) else _) = _
    rw [if_neg (by omega), if_pos (by omega), if_neg (by omega)]
    rw [show ((-(-(11 + 2 * (i : Int))) - 11) / 2).toNat = i by omega]
  · intro j hj
    show (if _ then _ else if _ then (if _ then _ else _) else _) = _
    rw [if_neg (by omega), if_neg (by omega)]
    rw [show ((-(-(11 + 2 * (i : Int))) - 11) / 2).toNat = i by omega, show (j : Int).toNat = j from rfl]
  · intro a h0 h1 h2
    show (if _ then _ else if _ then (if _ then _ else _) else _ : Nat × Int).1 = 0
    rw [if_neg h1, if_neg]
    rintro ⟨h3, h4⟩
    have h5 := h2 ((-a - 10) / 2).toNat (by omega)
    omega
theorem mm_HR0 {D : va_G} {tys : List (ClassId × FieldType)} {B : Nat} {old : Int → Nat} {L : Nat} {scr : Nat → Int32} (hL : L ≤ 3072) (H : Heap) : mm_HR D tys B old L scr [] (mm_w0 L) (mm_h0 scr) H := by
  refine ⟨rfl, fun a h1 h2 => ?_, fun a h => ?_, mm_neg0 hL, fun k q h => by simp [mm_ws] at h, fun i j p q h => by simp [mm_ws] at h, fun k q h => by simp [mm_ws] at h⟩
  · have h2 : a ≤ 0 := h2
    omega
  · have h : 0 < a := h
    show (if _ then _ else if _ then (if _ then _ else _) else _ : Nat × Int).1 = 0
    rw [if_neg (by omega), if_neg (by omega)]
