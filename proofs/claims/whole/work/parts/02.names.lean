def R_Row : String := "ZipArray$Row"
def T_Row : u_T := fun k => match k with
  | 0 => ("ZipArray$Row", "bytes", "[I", true)
  | 1 => ("ZipArray$Row", "size", "I", false)
  | _ => ("ZipArray$Row", "overflown", "Z", false)
def t_Row : Nat → FieldType := fun k => match k with
  | 0 => .array .int
  | 1 => .int
  | _ => .boolean
theorem nm_Row : ∀ a, a < 3 → ∀ b, b < 3 → a ≠ b → (T_Row a).2.1 ≠ (T_Row b).2.1 := by decide +kernel
theorem ty_Row : ∀ k, k < 3 → parseFieldDescriptor (T_Row k).2.2.1 = some (t_Row k) := by decide +kernel
theorem in_Row : ∀ w ∈ u_ws R_Row T_Row 3, w ∈ zTb := in_of [50, 52, 54] (by decide +kernel) (by decide +kernel)
def R_Entry : String := "ZipArray$Entry"
def T_Entry : u_T := fun k => match k with
  | 0 => ("ZipArray$Entry", "name", "I", false)
  | 1 => ("ZipArray$Entry", "flags", "I", false)
  | 2 => ("ZipArray$Entry", "method", "I", false)
  | 3 => ("ZipArray$Entry", "checksum", "I", false)
  | 4 => ("ZipArray$Entry", "packedSize", "I", false)
  | 5 => ("ZipArray$Entry", "size", "I", false)
  | 6 => ("ZipArray$Entry", "offset", "I", false)
  | 7 => ("ZipArray$Entry", "partStart", "I", false)
  | _ => ("ZipArray$Entry", "partEnd", "I", false)
def t_Entry : Nat → FieldType := fun k => match k with
  | 0 => .int
  | 1 => .int
  | 2 => .int
  | 3 => .int
  | 4 => .int
  | 5 => .int
  | 6 => .int
  | 7 => .int
  | _ => .int
theorem nm_Entry : ∀ a, a < 9 → ∀ b, b < 9 → a ≠ b → (T_Entry a).2.1 ≠ (T_Entry b).2.1 := by decide +kernel
theorem ty_Entry : ∀ k, k < 9 → parseFieldDescriptor (T_Entry k).2.2.1 = some (t_Entry k) := by decide +kernel
theorem in_Entry : ∀ w ∈ u_ws R_Entry T_Entry 9, w ∈ zTb := in_of [193, 195, 197, 199, 201, 203, 205, 207, 209] (by decide +kernel) (by decide +kernel)
def R_Extras : String := "ZipArray$Extras"
def T_Extras : u_T := fun k => match k with
  | 0 => ("ZipArray$Extras", "file", "LZipArray$Row;", true)
  | 1 => ("ZipArray$Extras", "whole", "Z", false)
  | 2 => ("ZipArray$Extras", "lacks", "Z", false)
  | 3 => ("ZipArray$Extras", "place", "I", false)
  | _ => ("ZipArray$Extras", "end", "I", false)
def t_Extras : Nat → FieldType := fun k => match k with
  | 0 => .object "ZipArray$Row"
  | 1 => .boolean
  | 2 => .boolean
  | 3 => .int
  | _ => .int
theorem nm_Extras : ∀ a, a < 5 → ∀ b, b < 5 → a ≠ b → (T_Extras a).2.1 ≠ (T_Extras b).2.1 := by decide +kernel
theorem ty_Extras : ∀ k, k < 5 → parseFieldDescriptor (T_Extras k).2.2.1 = some (t_Extras k) := by decide +kernel
theorem in_Extras : ∀ w ∈ u_ws R_Extras T_Extras 5, w ∈ zTb := in_of [150, 152, 154, 156, 158] (by decide +kernel) (by decide +kernel)
def R_Packer : String := "ZipArray$Packer"
def T_Packer : u_T := fun k => match k with
  | 0 => ("ZipArray$Packer", "packed", "LZipArray$Row;", true)
  | 1 => ("ZipArray$Packer", "bits", "I", false)
  | 2 => ("ZipArray$Packer", "bitCount", "I", false)
  | 3 => ("ZipArray$Packer", "repeatLength", "I", false)
  | _ => ("ZipArray$Packer", "repeatDistance", "I", false)
def t_Packer : Nat → FieldType := fun k => match k with
  | 0 => .object "ZipArray$Row"
  | 1 => .int
  | 2 => .int
  | 3 => .int
  | _ => .int
theorem nm_Packer : ∀ a, a < 5 → ∀ b, b < 5 → a ≠ b → (T_Packer a).2.1 ≠ (T_Packer b).2.1 := by decide +kernel
theorem ty_Packer : ∀ k, k < 5 → parseFieldDescriptor (T_Packer k).2.2.1 = some (t_Packer k) := by decide +kernel
theorem in_Packer : ∀ w ∈ u_ws R_Packer T_Packer 5, w ∈ zTb := in_of [69, 71, 73, 75, 77] (by decide +kernel) (by decide +kernel)
def R_Code : String := "ZipArray$Code"
def T_Code : u_T := fun k => match k with
  | 0 => ("ZipArray$Code", "counts", "[I", true)
  | 1 => ("ZipArray$Code", "symbols", "[I", true)
  | _ => ("ZipArray$Code", "next", "[I", true)
def t_Code : Nat → FieldType := fun k => match k with
  | 0 => .array .int
  | 1 => .array .int
  | _ => .array .int
theorem nm_Code : ∀ a, a < 3 → ∀ b, b < 3 → a ≠ b → (T_Code a).2.1 ≠ (T_Code b).2.1 := by decide +kernel
theorem ty_Code : ∀ k, k < 3 → parseFieldDescriptor (T_Code k).2.2.1 = some (t_Code k) := by decide +kernel
theorem in_Code : ∀ w ∈ u_ws R_Code T_Code 3, w ∈ zTb := in_of [99, 101, 103] (by decide +kernel) (by decide +kernel)
def R_Unpacker : String := "ZipArray$Unpacker"
def T_Unpacker : u_T := fun k => match k with
  | 0 => ("ZipArray$Unpacker", "given", "LZipArray$Row;", true)
  | 1 => ("ZipArray$Unpacker", "lengthCode", "LZipArray$Code;", true)
  | 2 => ("ZipArray$Unpacker", "symbolCode", "LZipArray$Code;", true)
  | 3 => ("ZipArray$Unpacker", "distanceCode", "LZipArray$Code;", true)
  | 4 => ("ZipArray$Unpacker", "lengths", "[I", true)
  | 5 => ("ZipArray$Unpacker", "source", "LZipArray$Row;", false)
  | 6 => ("ZipArray$Unpacker", "place", "I", false)
  | _ => ("ZipArray$Unpacker", "end", "I", false)
def t_Unpacker : Nat → FieldType := fun k => match k with
  | 0 => .object "ZipArray$Row"
  | 1 => .object "ZipArray$Code"
  | 2 => .object "ZipArray$Code"
  | 3 => .object "ZipArray$Code"
  | 4 => .array .int
  | 5 => .object "ZipArray$Row"
  | 6 => .int
  | _ => .int
theorem nm_Unpacker : ∀ a, a < 8 → ∀ b, b < 8 → a ≠ b → (T_Unpacker a).2.1 ≠ (T_Unpacker b).2.1 := by decide +kernel
theorem ty_Unpacker : ∀ k, k < 8 → parseFieldDescriptor (T_Unpacker k).2.2.1 = some (t_Unpacker k) := by decide +kernel
theorem in_Unpacker : ∀ w ∈ u_ws R_Unpacker T_Unpacker 8, w ∈ zTb := in_of [114, 116, 118, 120, 122, 124, 126, 128] (by decide +kernel) (by decide +kernel)
def R_Archive : String := "ZipArray$Archive"
def T_Archive : u_T := fun k => match k with
  | 0 => ("ZipArray$Archive", "file", "LZipArray$Row;", true)
  | 1 => ("ZipArray$Archive", "extras", "LZipArray$Extras;", true)
  | 2 => ("ZipArray$Archive", "entries", "[LZipArray$Entry;", true)
  | 3 => ("ZipArray$Archive", "entryCount", "I", false)
  | 4 => ("ZipArray$Archive", "directoryStart", "I", false)
  | 5 => ("ZipArray$Archive", "directoryEnd", "I", false)
  | _ => ("ZipArray$Archive", "remarkStart", "I", false)
def t_Archive : Nat → FieldType := fun k => match k with
  | 0 => .object "ZipArray$Row"
  | 1 => .object "ZipArray$Extras"
  | 2 => .array (.object "ZipArray$Entry")
  | 3 => .int
  | 4 => .int
  | 5 => .int
  | _ => .int
theorem nm_Archive : ∀ a, a < 7 → ∀ b, b < 7 → a ≠ b → (T_Archive a).2.1 ≠ (T_Archive b).2.1 := by decide +kernel
theorem ty_Archive : ∀ k, k < 7 → parseFieldDescriptor (T_Archive k).2.2.1 = some (t_Archive k) := by decide +kernel
theorem in_Archive : ∀ w ∈ u_ws R_Archive T_Archive 7, w ∈ zTb := in_of [223, 225, 227, 229, 231, 233, 235] (by decide +kernel) (by decide +kernel)
def R_Writer : String := "ZipArray$Writer"
def T_Writer : u_T := fun k => match k with
  | 0 => ("ZipArray$Writer", "draft", "LZipArray$Row;", true)
  | _ => ("ZipArray$Writer", "writesWide", "Z", false)
def t_Writer : Nat → FieldType := fun k => match k with
  | 0 => .object "ZipArray$Row"
  | _ => .boolean
theorem nm_Writer : ∀ a, a < 2 → ∀ b, b < 2 → a ≠ b → (T_Writer a).2.1 ≠ (T_Writer b).2.1 := by decide +kernel
theorem ty_Writer : ∀ k, k < 2 → parseFieldDescriptor (T_Writer k).2.2.1 = some (t_Writer k) := by decide +kernel
theorem in_Writer : ∀ w ∈ u_ws R_Writer T_Writer 2, w ∈ zTb := in_of [248, 250] (by decide +kernel) (by decide +kernel)
def R_Zip : String := "ZipArray"
def T_Zip : u_T := fun k => match k with
  | 0 => ("ZipArray", "buffer", "LZipArray$Row;", true)
  | 1 => ("ZipArray", "file", "LZipArray$Row;", true)
  | 2 => ("ZipArray", "packed", "LZipArray$Row;", true)
  | 3 => ("ZipArray", "given", "LZipArray$Row;", true)
  | 4 => ("ZipArray", "packer", "LZipArray$Packer;", true)
  | 5 => ("ZipArray", "unpacker", "LZipArray$Unpacker;", true)
  | 6 => ("ZipArray", "archive", "LZipArray$Archive;", true)
  | 7 => ("ZipArray", "writer", "LZipArray$Writer;", true)
  | _ => ("ZipArray", "fresh", "LZipArray$Entry;", true)
def t_Zip : Nat → FieldType := fun k => match k with
  | 0 => .object "ZipArray$Row"
  | 1 => .object "ZipArray$Row"
  | 2 => .object "ZipArray$Row"
  | 3 => .object "ZipArray$Row"
  | 4 => .object "ZipArray$Packer"
  | 5 => .object "ZipArray$Unpacker"
  | 6 => .object "ZipArray$Archive"
  | 7 => .object "ZipArray$Writer"
  | _ => .object "ZipArray$Entry"
theorem nm_Zip : ∀ a, a < 9 → ∀ b, b < 9 → a ≠ b → (T_Zip a).2.1 ≠ (T_Zip b).2.1 := by decide +kernel
theorem ty_Zip : ∀ k, k < 9 → parseFieldDescriptor (T_Zip k).2.2.1 = some (t_Zip k) := by decide +kernel
theorem in_Zip : ∀ w ∈ u_ws R_Zip T_Zip 9, w ∈ zTb := in_of [264, 266, 268, 270, 272, 274, 276, 278, 280] (by decide +kernel) (by decide +kernel)
def R_Model : String := "ZipArrayModel"
def T_Model : u_T := fun k => match k with
  | 0 => ("ZipArrayModel", "code", "I", false)
  | 1 => ("ZipArrayModel", "held", "I", false)
  | 2 => ("ZipArrayModel", "buffer", "[I", false)
  | 3 => ("ZipArrayModel", "length", "I", false)
  | 4 => ("ZipArrayModel", "file", "[I", false)
  | 5 => ("ZipArrayModel", "wide", "Z", false)
  | 6 => ("ZipArrayModel", "contentSize", "I", false)
  | 7 => ("ZipArrayModel", "content", "[I", false)
  | 8 => ("ZipArrayModel", "givenSize", "I", false)
  | 9 => ("ZipArrayModel", "given", "[I", false)
  | 10 => ("ZipArrayModel", "bitAt", "I", false)
  | 11 => ("ZipArrayModel", "bad", "Z", false)
  | 12 => ("ZipArrayModel", "lens", "[I", false)
  | 13 => ("ZipArrayModel", "words", "[I", false)
  | 14 => ("ZipArrayModel", "row", "[I", false)
  | 15 => ("ZipArrayModel", "order", "[I", false)
  | 16 => ("ZipArrayModel", "endAt", "I", false)
  | 17 => ("ZipArrayModel", "count", "I", false)
  | 18 => ("ZipArrayModel", "directory", "I", false)
  | 19 => ("ZipArrayModel", "directoryEnd", "I", false)
  | 20 => ("ZipArrayModel", "names", "[I", false)
  | 21 => ("ZipArrayModel", "flags", "[I", false)
  | 22 => ("ZipArrayModel", "methods", "[I", false)
  | 23 => ("ZipArrayModel", "crcs", "[I", false)
  | 24 => ("ZipArrayModel", "packs", "[I", false)
  | 25 => ("ZipArrayModel", "sizes", "[I", false)
  | 26 => ("ZipArrayModel", "offsets", "[I", false)
  | 27 => ("ZipArrayModel", "parts", "[I", false)
  | 28 => ("ZipArrayModel", "partEnds", "[I", false)
  | 29 => ("ZipArrayModel", "begins", "[I", false)
  | 30 => ("ZipArrayModel", "ends", "[I", false)
  | 31 => ("ZipArrayModel", "draftSize", "I", false)
  | _ => ("ZipArrayModel", "draft", "[I", false)
def t_Model : Nat → FieldType := fun k => match k with
  | 0 => .int
  | 1 => .int
  | 2 => .array .int
  | 3 => .int
  | 4 => .array .int
  | 5 => .boolean
  | 6 => .int
  | 7 => .array .int
  | 8 => .int
  | 9 => .array .int
  | 10 => .int
  | 11 => .boolean
  | 12 => .array .int
  | 13 => .array .int
  | 14 => .array .int
  | 15 => .array .int
  | 16 => .int
  | 17 => .int
  | 18 => .int
  | 19 => .int
  | 20 => .array .int
  | 21 => .array .int
  | 22 => .array .int
  | 23 => .array .int
  | 24 => .array .int
  | 25 => .array .int
  | 26 => .array .int
  | 27 => .array .int
  | 28 => .array .int
  | 29 => .array .int
  | 30 => .array .int
  | 31 => .int
  | _ => .array .int
theorem nm_Model : ∀ a, a < 33 → ∀ b, b < 33 → a ≠ b → (T_Model a).2.1 ≠ (T_Model b).2.1 := by decide +kernel
theorem ty_Model : ∀ k, k < 33 → parseFieldDescriptor (T_Model k).2.2.1 = some (t_Model k) := by decide +kernel
theorem in_Model : ∀ w ∈ u_ws R_Model T_Model 33, w ∈ zTb := in_of [915, 917, 919, 921, 923, 925, 927, 929, 931, 933, 935, 937, 939, 941, 943, 945, 947, 949, 951, 953, 955, 957, 959, 961, 963, 965, 967, 969, 971, 973, 975, 977, 979] (by decide +kernel) (by decide +kernel)
def T_none : u_T := fun _ => ("", "", "", false)
def R_IAE : String := "java/lang/IllegalArgumentException"
def R_ISE : String := "java/lang/IllegalStateException"
def R_IOOBE : String := "java/lang/IndexOutOfBoundsException"
def R_AE : String := "java/lang/ArithmeticException"
def R_UOE : String := "java/lang/UnsupportedOperationException"
def R_NSEE : String := "java/util/NoSuchElementException"
def zCl : List vw_C := [(R_Row, T_Row, 3), (R_Entry, T_Entry, 9), (R_Extras, T_Extras, 5), (R_Packer, T_Packer, 5), (R_Code, T_Code, 3), (R_Unpacker, T_Unpacker, 8), (R_Archive, T_Archive, 7), (R_Writer, T_Writer, 2), (R_Zip, T_Zip, 9), (R_Model, T_Model, 33), (R_IAE, T_none, 0), (R_ISE, T_none, 0), (R_IOOBE, T_none, 0), (R_AE, T_none, 0), (R_UOE, T_none, 0), (R_NSEE, T_none, 0)]
