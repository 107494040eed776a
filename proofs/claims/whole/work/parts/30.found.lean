/-! frames, references that stand still, the whole numbers' cells -/
abbrev mC (g : cw_G) (y : cw_Y) (args : List cw_V) (M : cw_M) (P : Option cw_V → cw_M → Prop) : Prop := cw_C g y args M cw_NX cw_NX P
abbrev mJ (g : cw_G) (y : cw_Y) (pc : Nat) (L S : List cw_V) (M : cw_M) (Q : Option cw_V → cw_M → Prop) : Prop := cw_J g y cw_NX cw_NX cw_NX pc L S M Q
/-- the places that hold references for good -/
def cw_rs (a k : Int) : Bool := if (cw_kt cw_NX a).1 < 20 then decide (cw_fc (cw_kt cw_NX a).1 k.toNat = 2) && !(decide ((cw_kt cw_NX a).1 = 5 ∧ k = 2)) else decide (23 ≤ (cw_kt cw_NX a).1 ∧ (cw_kt cw_NX a).1 < 99)
/-- only cells of A have changed, and no reference -/
def cw_fr (A : Int → Prop) (M M' : cw_M) : Prop := (∀ a, ¬ A a → M' a = M a) ∧ ∀ a k, cw_rs a k = true → M' a k = M a k
theorem fr_rf {A : Int → Prop} {M : cw_M} : cw_fr A M M := ⟨fun _ _ => rfl, fun _ _ _ => rfl⟩
theorem fr_tr {A : Int → Prop} {M M1 M2 : cw_M} (h : cw_fr A M M1) (k : cw_fr A M1 M2) : cw_fr A M M2 := ⟨fun a ha => (k.1 a ha).trans (h.1 a ha), fun a i hr => (k.2 a i hr).trans (h.2 a i hr)⟩
theorem fr_mo {A A' : Int → Prop} {M M1 : cw_M} (h : cw_fr A M M1) (k : ∀ a, A a → A' a) : cw_fr A' M M1 := ⟨fun a ha => h.1 a (fun q => ha (k a q)), h.2⟩
theorem fr_up {A : Int → Prop} {M M1 : cw_M} {a k v : Int} (h : cw_fr A M M1) (ha : A a) (hr : cw_rs a k = false) : cw_fr A M (cw_up M1 a k v) := by
  refine ⟨fun b hb => ?_, fun b i hi => ?_⟩
  · rw [cw_up_ne (fun q => hb (by rw [q]; exact ha))]
    exact h.1 b hb
  · by_cases hba : b = a
    · subst hba
      by_cases hik : i = k
      · subst hik
        rw [hr] at hi
        cases hi
      · rw [w_up2 hik]
        exact h.2 _ _ hi
    · rw [w_up3 hba]
      exact h.2 _ _ hi
/-- the references are as the constructors laid them -/
def cw_rl : List (List Int) := [[1, 47, 140, 141, 148, 276, 279, 292, 305, 318], [2, 27, 31, 34, 35], [-1, 3, 11, 19, 20, 25, -1, 26], [4, 5, 6, 7, 8, 9, 10], [], [], [], [], [], [], [], [12, 13, 14, 15, 16, 17, 18], [], [], [], [], [], [], [], [], [21, 22, 23, 24], [], [], [], [], [], [], [-1, 28, 29, 30], [], [], [], [-1, 32, 33], [], [], [], [36, 37, 38, 39, 40, 45, 46], [], [], [], [], [41, 42, 43, 44], [], [], [], [], [], [], [48, 94], [49, 74, 78, 81, 82], [-1, 50, 58, 66, 67, 72, -1, 73], [51, 52, 53, 54, 55, 56, 57], [], [], [], [], [], [], [], [59, 60, 61, 62, 63, 64, 65], [], [], [], [], [], [], [], [], [68, 69, 70, 71], [], [], [], [], [], [], [-1, 75, 76, 77], [], [], [], [-1, 79, 80], [], [], [], [83, 84, 85, 86, 87, 92, 93], [], [], [], [], [88, 89, 90, 91], [], [], [], [], [], [], [95, 120, 124, 127, 128], [-1, 96, 104, 112, 113, 118, -1, 119], [97, 98, 99, 100, 101, 102, 103], [], [], [], [], [], [], [], [105, 106, 107, 108, 109, 110, 111], [], [], [], [], [], [], [], [], [114, 115, 116, 117], [], [], [], [], [], [], [-1, 121, 122, 123], [], [], [], [-1, 125, 126], [], [], [], [129, 130, 131, 132, 133, 138, 139], [], [], [], [], [134, 135, 136, 137], [], [], [], [], [], [], [], [-1, 142, 143, 144, 145, 146, -1, 147], [], [], [], [], [], [], [149, 151, -1, 166, 167, 168, 169, 170, 171, 172, 199, 226, 253, 268, 270, 272, 274], [150], [], [152, 154, 156, 158, 160, 162, 164], [153], [], [155], [], [157], [], [159], [], [161], [], [163], [], [165], [], [], [], [], [], [], [], [173, 175, 177, 179, 181, 183, 185, 187, 189, 191, 193, 195, 197], [174], [], [176], [], [178], [], [180], [], [182], [], [184], [], [186], [], [188], [], [190], [], [192], [], [194], [], [196], [], [198], [], [200, 202, 204, 206, 208, 210, 212, 214, 216, 218, 220, 222, 224], [201], [], [203], [], [205], [], [207], [], [209], [], [211], [], [213], [], [215], [], [217], [], [219], [], [221], [], [223], [], [225], [], [227, 229, 231, 233, 235, 237, 239, 241, 243, 245, 247, 249, 251], [228], [], [230], [], [232], [], [234], [], [236], [], [238], [], [240], [], [242], [], [244], [], [246], [], [248], [], [250], [], [252], [], [254, 256, 258, 260, 262, 264, 266], [255], [], [257], [], [259], [], [261], [], [263], [], [265], [], [267], [], [269], [], [271], [], [273], [], [275], [], [-1, 277, -1, 278], [], [], [280, 282, 284, 286, 288, 290], [281], [], [283], [], [285], [], [287], [], [289], [], [291], [], [293, 295, 297, 299, 301, 303], [294], [], [296], [], [298], [], [300], [], [302], [], [304], [], [306, 308, 310, 312, 314, 316], [307], [], [309], [], [311], [], [313], [], [315], [], [317], [], [], [320, 321, 322, 323, 324, 325, 326, -1, 327, 328, 329, 330, 331, 332, 333, 334, 335, 336, -1, -1, 337, 338, 339, 340, 341, 342, 343, -1, -1, 344, 345, 346, 347], [], [], [], [], [], [], [], [], [], [], [], [], [], [], [], [], [], [], [], [], [], [], [], [], [], [], [], []]
def cw_rv (a k : Int) : Int := (cw_rl.getD a.toNat []).getD k.toNat (-1)
def Sh (M : cw_M) : Prop := ∀ a k, cw_rs a k = true → M a k = cw_rv a k
theorem Sh.fr {A : Int → Prop} {M M1 : cw_M} (h : Sh M) (k : cw_fr A M M1) : Sh M1 := fun a i hr => (k.2 a i hr).trans (h a i hr)
/-- the cell of a whole number, and its limbs behind it -/
def IsW (w : Int) : Prop := cw_kt cw_NX w = (10, 0) ∧ cw_kt cw_NX (w + 1) = (21, 16) ∧ cw_rv w 0 = w + 1 ∧ 0 ≤ w
theorem IsW.rs0 {w : Int} (h : IsW w) : cw_rs w 0 = true := by unfold cw_rs; rw [h.1]; rfl
theorem IsW.rs1 {w : Int} (h : IsW w) : cw_rs w 1 = false := by unfold cw_rs; rw [h.1]; rfl
theorem IsW.rs2 {w : Int} (h : IsW w) : cw_rs w 2 = false := by unfold cw_rs; rw [h.1]; rfl
theorem IsW.rsl {w : Int} (h : IsW w) (k : Int) : cw_rs (w + 1) k = false := by unfold cw_rs; rw [h.2.1]; rfl
theorem IsW.limb {w : Int} (h : IsW w) {M : cw_M} (hS : Sh M) : M w 0 = w + 1 := by rw [hS _ _ h.rs0]; exact h.2.2.1
def cw_wl : List Int := [149, 152, 154, 156, 158, 160, 162, 164, 173, 175, 177, 179, 181, 183, 185, 187, 189, 191, 193, 195, 197, 200, 202, 204, 206, 208, 210, 212, 214, 216, 218, 220, 222, 224, 227, 229, 231, 233, 235, 237, 239, 241, 243, 245, 247, 249, 251, 254, 256, 258, 260, 262, 264, 266, 268, 270, 272, 274, 280, 282, 284, 286, 288, 290, 293, 295, 297, 299, 301, 303, 306, 308, 310, 312, 314, 316]
theorem isW_all : ∀ w ∈ cw_wl, IsW w := by unfold IsW; decide +kernel
theorem IsW.kt {w : Int} (h : IsW w) : cw_kt cw_NX w = (10, 0) := h.1
