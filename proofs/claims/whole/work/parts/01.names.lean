/-! the classes, their fields; the links; printed by wip/gen/gen0.py -/
def mT0 : u_T := fun k => match k with
  | 0 => ("FormatPress", "rowLine", "LFormatPress$Line;", true)
  | 1 => ("FormatPress", "formatLine", "LFormatPress$Line;", true)
  | 2 => ("FormatPress", "outputLine", "LFormatPress$Line;", true)
  | 3 => ("FormatPress", "spec", "LFormatPress$Spec;", true)
  | 4 => ("FormatPress", "arguments", "LFormatPress$Arguments;", true)
  | 5 => ("FormatPress", "composer", "LFormatPress$Composer;", true)
  | 6 => ("FormatPress", "reader", "LFormatPress$NumberReader;", true)
  | 7 => ("FormatPress", "formatted", "Z", false)
  | 8 => ("FormatPress", "faultKind", "I", false)
  | _ => ("FormatPress", "faultPlace", "I", false)
def mTy0 : Nat → FieldType := fun k => match k with
  | 0 => (.object "FormatPress$Line")
  | 1 => (.object "FormatPress$Line")
  | 2 => (.object "FormatPress$Line")
  | 3 => (.object "FormatPress$Spec")
  | 4 => (.object "FormatPress$Arguments")
  | 5 => (.object "FormatPress$Composer")
  | 6 => (.object "FormatPress$NumberReader")
  | 7 => .boolean
  | 8 => .int
  | _ => .int
def mT1 : u_T := fun k => match k with
  | 0 => ("FormatPress$Line", "bytes", "[B", true)
  | _ => ("FormatPress$Line", "length", "I", false)
def mTy1 : Nat → FieldType := fun k => match k with
  | 0 => (.array .byte)
  | _ => .int
def mT2 : u_T := fun k => match k with
  | 0 => ("FormatPress$Arguments", "sorts", "[I", true)
  | 1 => ("FormatPress$Arguments", "values", "[J", true)
  | 2 => ("FormatPress$Arguments", "texts", "[B", true)
  | _ => ("FormatPress$Arguments", "count", "I", false)
def mTy2 : Nat → FieldType := fun k => match k with
  | 0 => (.array .int)
  | 1 => (.array .long)
  | 2 => (.array .byte)
  | _ => .int
def mT3 : u_T := fun k => match k with
  | 0 => ("FormatPress$Spec", "next", "I", false)
  | 1 => ("FormatPress$Spec", "number", "I", false)
  | 2 => ("FormatPress$Spec", "flags", "I", false)
  | 3 => ("FormatPress$Spec", "flagTwice", "Z", false)
  | 4 => ("FormatPress$Spec", "width", "I", false)
  | 5 => ("FormatPress$Spec", "precision", "I", false)
  | 6 => ("FormatPress$Spec", "conversion", "I", false)
  | 7 => ("FormatPress$Spec", "suffix", "I", false)
  | _ => ("FormatPress$Spec", "capital", "Z", false)
def mTy3 : Nat → FieldType := fun k => match k with
  | 0 => .int
  | 1 => .int
  | 2 => .int
  | 3 => .boolean
  | 4 => .int
  | 5 => .int
  | 6 => .int
  | 7 => .int
  | _ => .boolean
def mT4 : u_T := fun k => match k with
  | 0 => ("FormatPress$Composer", "spec", "LFormatPress$Spec;", true)
  | 1 => ("FormatPress$Composer", "arguments", "LFormatPress$Arguments;", true)
  | 2 => ("FormatPress$Composer", "output", "LFormatPress$Line;", true)
  | 3 => ("FormatPress$Composer", "piece", "LFormatPress$Piece;", true)
  | 4 => ("FormatPress$Composer", "reals", "LFormatPress$RealWriter;", true)
  | 5 => ("FormatPress$Composer", "moment", "LFormatPress$Moment;", true)
  | 6 => ("FormatPress$Composer", "ordinary", "I", false)
  | 7 => ("FormatPress$Composer", "latest", "I", false)
  | 8 => ("FormatPress$Composer", "sort", "I", false)
  | _ => ("FormatPress$Composer", "value", "J", false)
def mTy4 : Nat → FieldType := fun k => match k with
  | 0 => (.object "FormatPress$Spec")
  | 1 => (.object "FormatPress$Arguments")
  | 2 => (.object "FormatPress$Line")
  | 3 => (.object "FormatPress$Piece")
  | 4 => (.object "FormatPress$RealWriter")
  | 5 => (.object "FormatPress$Moment")
  | 6 => .int
  | 7 => .int
  | 8 => .int
  | _ => .long
def mT5 : u_T := fun k => match k with
  | 0 => ("FormatPress$Piece", "bytes", "[B", true)
  | 1 => ("FormatPress$Piece", "length", "I", false)
  | 2 => ("FormatPress$Piece", "goingOn", "I", false)
  | _ => ("FormatPress$Piece", "zerosAt", "I", false)
def mTy5 : Nat → FieldType := fun k => match k with
  | 0 => (.array .byte)
  | 1 => .int
  | 2 => .int
  | _ => .int
def mT6 : u_T := fun k => match k with
  | 0 => ("FormatPress$Moment", "millis", "J", false)
  | 1 => ("FormatPress$Moment", "millisOfDay", "I", false)
  | 2 => ("FormatPress$Moment", "year", "J", false)
  | 3 => ("FormatPress$Moment", "month", "I", false)
  | 4 => ("FormatPress$Moment", "day", "I", false)
  | 5 => ("FormatPress$Moment", "dayOfYear", "I", false)
  | _ => ("FormatPress$Moment", "weekday", "I", false)
def mTy6 : Nat → FieldType := fun k => match k with
  | 0 => .long
  | 1 => .int
  | 2 => .long
  | 3 => .int
  | 4 => .int
  | 5 => .int
  | _ => .int
def mT7 : u_T := fun k => match k with
  | 0 => ("FormatPress$RealWriter", "decimal", "LFormatPress$Decimal;", true)
  | 1 => ("FormatPress$RealWriter", "shortest", "LFormatPress$Shortest;", true)
  | 2 => ("FormatPress$RealWriter", "negative", "Z", false)
  | 3 => ("FormatPress$RealWriter", "notANumber", "Z", false)
  | 4 => ("FormatPress$RealWriter", "infinite", "Z", false)
  | 5 => ("FormatPress$RealWriter", "size", "J", false)
  | 6 => ("FormatPress$RealWriter", "exponent", "I", false)
  | _ => ("FormatPress$RealWriter", "lowIsNear", "Z", false)
def mTy7 : Nat → FieldType := fun k => match k with
  | 0 => (.object "FormatPress$Decimal")
  | 1 => (.object "FormatPress$Shortest")
  | 2 => .boolean
  | 3 => .boolean
  | 4 => .boolean
  | 5 => .long
  | 6 => .int
  | _ => .boolean
def mT8 : u_T := fun k => match k with
  | 0 => ("FormatPress$Decimal", "limbs", "[J", true)
  | 1 => ("FormatPress$Decimal", "used", "I", false)
  | 2 => ("FormatPress$Decimal", "digits", "[B", true)
  | 3 => ("FormatPress$Decimal", "count", "I", false)
  | _ => ("FormatPress$Decimal", "point", "I", false)
def mTy8 : Nat → FieldType := fun k => match k with
  | 0 => (.array .long)
  | 1 => .int
  | 2 => (.array .byte)
  | 3 => .int
  | _ => .int
def mT9 : u_T := fun k => match k with
  | 0 => ("FormatPress$Shortest", "value", "J", false)
  | 1 => ("FormatPress$Shortest", "valueGoesOn", "Z", false)
  | 2 => ("FormatPress$Shortest", "low", "J", false)
  | 3 => ("FormatPress$Shortest", "lowGoesOn", "Z", false)
  | 4 => ("FormatPress$Shortest", "high", "J", false)
  | 5 => ("FormatPress$Shortest", "highGoesOn", "Z", false)
  | 6 => ("FormatPress$Shortest", "edgesRead", "Z", false)
  | _ => ("FormatPress$Shortest", "point", "I", false)
def mTy9 : Nat → FieldType := fun k => match k with
  | 0 => .long
  | 1 => .boolean
  | 2 => .long
  | 3 => .boolean
  | 4 => .long
  | 5 => .boolean
  | 6 => .boolean
  | _ => .int
def mT10 : u_T := fun k => match k with
  | 0 => ("FormatPress$NumberReader", "line", "LFormatPress$Line;", true)
  | 1 => ("FormatPress$NumberReader", "binary", "LFormatPress$Binary;", true)
  | 2 => ("FormatPress$NumberReader", "small", "Z", false)
  | 3 => ("FormatPress$NumberReader", "at", "I", false)
  | 4 => ("FormatPress$NumberReader", "end", "I", false)
  | 5 => ("FormatPress$NumberReader", "negative", "Z", false)
  | 6 => ("FormatPress$NumberReader", "digits", "I", false)
  | 7 => ("FormatPress$NumberReader", "digitsBehindPoint", "I", false)
  | 8 => ("FormatPress$NumberReader", "digitsFromFirst", "I", false)
  | 9 => ("FormatPress$NumberReader", "exponent", "I", false)
  | _ => ("FormatPress$NumberReader", "bits", "J", false)
def mTy10 : Nat → FieldType := fun k => match k with
  | 0 => (.object "FormatPress$Line")
  | 1 => (.object "FormatPress$Binary")
  | 2 => .boolean
  | 3 => .int
  | 4 => .int
  | 5 => .boolean
  | 6 => .int
  | 7 => .int
  | 8 => .int
  | 9 => .int
  | _ => .long
def mT11 : u_T := fun k => match k with
  | 0 => ("FormatPress$Binary", "words", "[J", true)
  | 1 => ("FormatPress$Binary", "used", "I", false)
  | 2 => ("FormatPress$Binary", "raised", "I", false)
  | _ => ("FormatPress$Binary", "rest", "Z", false)
def mTy11 : Nat → FieldType := fun k => match k with
  | 0 => (.array .long)
  | 1 => .int
  | 2 => .int
  | _ => .boolean
def mT12 : u_T := fun k => match k with
  | 0 => ("FormatPressModel", "row", "[B", true)
  | 1 => ("FormatPressModel", "format", "[B", true)
  | 2 => ("FormatPressModel", "out", "[B", true)
  | 3 => ("FormatPressModel", "texts", "[B", true)
  | 4 => ("FormatPressModel", "rows", "I", false)
  | 5 => ("FormatPressModel", "formatSize", "I", false)
  | 6 => ("FormatPressModel", "outs", "I", false)
  | 7 => ("FormatPressModel", "kind", "I", false)
  | 8 => ("FormatPressModel", "place", "I", false)
  | 9 => ("FormatPressModel", "thrown", "I", false)
  | 10 => ("FormatPressModel", "aKind", "[I", true)
  | 11 => ("FormatPressModel", "aSize", "[I", true)
  | 12 => ("FormatPressModel", "aValue", "[J", true)
  | 13 => ("FormatPressModel", "arguments", "I", false)
  | 14 => ("FormatPressModel", "sWhich", "I", false)
  | 15 => ("FormatPressModel", "sFlags", "I", false)
  | 16 => ("FormatPressModel", "sWidth", "I", false)
  | 17 => ("FormatPressModel", "sPrecision", "I", false)
  | 18 => ("FormatPressModel", "sLetter", "I", false)
  | 19 => ("FormatPressModel", "sTime", "I", false)
  | 20 => ("FormatPressModel", "sEnd", "I", false)
  | 21 => ("FormatPressModel", "sFault", "I", false)
  | 22 => ("FormatPressModel", "sCapital", "Z", false)
  | 23 => ("FormatPressModel", "number", "LFormatPressModel$Decimal;", true)
  | 24 => ("FormatPressModel", "under", "LFormatPressModel$Decimal;", true)
  | 25 => ("FormatPressModel", "over", "LFormatPressModel$Decimal;", true)
  | 26 => ("FormatPressModel", "d", "[B", true)
  | 27 => ("FormatPressModel", "dTop", "I", false)
  | 28 => ("FormatPressModel", "dMany", "I", false)
  | 29 => ("FormatPressModel", "made", "[B", true)
  | 30 => ("FormatPressModel", "mades", "I", false)
  | 31 => ("FormatPressModel", "wide", "I", false)
  | 32 => ("FormatPressModel", "body", "[B", true)
  | 33 => ("FormatPressModel", "bodies", "I", false)
  | 34 => ("FormatPressModel", "formatSize2", "I", false)
  | 35 => ("FormatPressModel", "sArgument", "I", false)
  | 36 => ("FormatPressModel", "nextArgument", "I", false)
  | 37 => ("FormatPressModel", "lastArgument", "I", false)
  | 38 => ("FormatPressModel", "readAt", "I", false)
  | 39 => ("FormatPressModel", "readEnd", "I", false)
  | _ => ("FormatPressModel", "isRead", "Z", false)
def mTy12 : Nat → FieldType := fun k => match k with
  | 0 => (.array .byte)
  | 1 => (.array .byte)
  | 2 => (.array .byte)
  | 3 => (.array .byte)
  | 4 => .int
  | 5 => .int
  | 6 => .int
  | 7 => .int
  | 8 => .int
  | 9 => .int
  | 10 => (.array .int)
  | 11 => (.array .int)
  | 12 => (.array .long)
  | 13 => .int
  | 14 => .int
  | 15 => .int
  | 16 => .int
  | 17 => .int
  | 18 => .int
  | 19 => .int
  | 20 => .int
  | 21 => .int
  | 22 => .boolean
  | 23 => (.object "FormatPressModel$Decimal")
  | 24 => (.object "FormatPressModel$Decimal")
  | 25 => (.object "FormatPressModel$Decimal")
  | 26 => (.array .byte)
  | 27 => .int
  | 28 => .int
  | 29 => (.array .byte)
  | 30 => .int
  | 31 => .int
  | 32 => (.array .byte)
  | 33 => .int
  | 34 => .int
  | 35 => .int
  | 36 => .int
  | 37 => .int
  | 38 => .int
  | 39 => .int
  | _ => .boolean
def mT13 : u_T := fun k => match k with
  | 0 => ("FormatPressModel$Decimal", "w", "[I", true)
  | 1 => ("FormatPressModel$Decimal", "from", "I", false)
  | _ => ("FormatPressModel$Decimal", "to", "I", false)
def mTy13 : Nat → FieldType := fun k => match k with
  | 0 => (.array .int)
  | 1 => .int
  | _ => .int
def mT14 : u_T := fun k => match k with
  | 0 => ("java/lang/String", "value", "[B", true)
  | _ => ("java/lang/String", "coder", "B", true)
def mTy14 : Nat → FieldType := fun k => match k with
  | 0 => (.array .byte)
  | _ => .byte
def mCN (o : Nat) : String := (["FormatPress", "FormatPress$Line", "FormatPress$Arguments", "FormatPress$Spec", "FormatPress$Composer", "FormatPress$Piece", "FormatPress$Moment", "FormatPress$RealWriter", "FormatPress$Decimal", "FormatPress$Shortest", "FormatPress$NumberReader", "FormatPress$Binary", "FormatPressModel", "FormatPressModel$Decimal", "java/lang/String", "FormatPressLaw", "java/lang/StringLatin1", "java/lang/Math", "java/lang/Long", "java/lang/Integer", "jdk/internal/util/Preconditions"] : List String).getD o ""
abbrev mcl : List vw_C := [("FormatPress", mT0, 10), ("FormatPress$Line", mT1, 2), ("FormatPress$Arguments", mT2, 4), ("FormatPress$Spec", mT3, 9), ("FormatPress$Composer", mT4, 10), ("FormatPress$Piece", mT5, 4), ("FormatPress$Moment", mT6, 7), ("FormatPress$RealWriter", mT7, 8), ("FormatPress$Decimal", mT8, 5), ("FormatPress$Shortest", mT9, 8), ("FormatPress$NumberReader", mT10, 11), ("FormatPress$Binary", mT11, 4), ("FormatPressModel", mT12, 41), ("FormatPressModel$Decimal", mT13, 3)]
def mTT (o : Nat) : u_T := ([mT0, mT1, mT2, mT3, mT4, mT5, mT6, mT7, mT8, mT9, mT10, mT11, mT12, mT13, mT14] : List u_T).getD o mT0
def mTyT (o : Nat) : Nat → FieldType := ([mTy0, mTy1, mTy2, mTy3, mTy4, mTy5, mTy6, mTy7, mTy8, mTy9, mTy10, mTy11, mTy12, mTy13, mTy14] : List (Nat → FieldType)).getD o mTy0
def mNF (o : Nat) : Nat := ([10, 2, 4, 9, 10, 4, 7, 8, 5, 8, 11, 4, 41, 3, 2] : List Nat).getD o 0
def mEX (x : Nat) : String := (["java/lang/IllegalArgumentException", "java/lang/UnsupportedOperationException", "java/lang/IllegalStateException", "java/util/NoSuchElementException"] : List String).getD x ""
def mST : List String := ["a word gives 0 to 8 bytes", "a byte above 127", "the row would be too long", "the row is too long for a format", "-#+ 0,(", "bBsScCdoxXeEfgGaA%n", "HIklMSLYyCmdejBbAapsQRTrDF", "cdoxt%n", "a spec has a fault", "no such kind of argument", "no character", "no room for an argument", "the row is too long for a text", "there is no format", "false", "null", "true", "NaN", "Infinity", "0.0", "E-", "E", "0", "0x", "HM", "HMS", "IMS", " AM", " PM", "January", "February", "March", "April", "May", "June", "July", "August", "September", "October", "November", "December", "Sunday", "Monday", "Tuesday", "Wednesday", "Thursday", "Friday", "Saturday", "am", "pm", "0x", "the arguments do not go with the format", "no place of the output", "NaN", "Infinity", "the row is no number", "-#+ 0,(", "bBsScCdoxXeEfgGaA%ntT", "HIklMSLYyCmdejBbAapsQRTrDF", "cdoxt%n", "false", "true", "null", "NaN", "Infinity", "0.0", "0x", "January   February  March     April     May       June      July      August    September October   November  December  ", "Thursday  Friday    Saturday  Sunday    Monday    Tuesday   Wednesday ", "am", "pm", "H:M", "H:M:S", "I:M:S", " AM", " PM", "m/d/y", "Y-m-d"]
def mY (k : Nat) : MethodName := ([⟨"FormatPress", "<init>", "()V"⟩,
  ⟨"FormatPress", "row", "(JIZ)I"⟩,
  ⟨"FormatPress", "format", "()I"⟩,
  ⟨"FormatPress", "clear", "()I"⟩,
  ⟨"FormatPress", "whole", "(IJ)I"⟩,
  ⟨"FormatPress", "real", "(JZ)I"⟩,
  ⟨"FormatPress", "text", "()I"⟩,
  ⟨"FormatPress", "run", "()I"⟩,
  ⟨"FormatPress", "kind", "()I"⟩,
  ⟨"FormatPress", "place", "()I"⟩,
  ⟨"FormatPress", "output", "(I)J"⟩,
  ⟨"FormatPress", "digest", "()J"⟩,
  ⟨"FormatPress", "read", "(Z)J"⟩,
  ⟨"FormatPress", "note", "(II)V"⟩,
  ⟨"FormatPress", "byteOf", "(JI)I"⟩,
  ⟨"FormatPress$Line", "<init>", "(I)V"⟩,
  ⟨"FormatPress$Line", "length", "()I"⟩,
  ⟨"FormatPress$Line", "at", "(I)I"⟩,
  ⟨"FormatPress$Line", "fits", "(I)Z"⟩,
  ⟨"FormatPress$Line", "add", "(I)V"⟩,
  ⟨"FormatPress$Line", "addTimes", "(II)V"⟩,
  ⟨"FormatPress$Line", "empty", "()V"⟩,
  ⟨"FormatPress$Line", "moveFrom", "(LFormatPress$Line;)V"⟩,
  ⟨"FormatPress$Arguments", "<init>", "()V"⟩,
  ⟨"FormatPress$Arguments", "isCharacter", "(J)Z"⟩,
  ⟨"FormatPress$Arguments", "narrowed", "(IJ)J"⟩,
  ⟨"FormatPress$Arguments", "isWhole", "(I)Z"⟩,
  ⟨"FormatPress$Arguments", "isReal", "(I)Z"⟩,
  ⟨"FormatPress$Arguments", "bitsOf", "(I)I"⟩,
  ⟨"FormatPress$Arguments", "full", "()Z"⟩,
  ⟨"FormatPress$Arguments", "count", "()I"⟩,
  ⟨"FormatPress$Arguments", "empty", "()I"⟩,
  ⟨"FormatPress$Arguments", "add", "(IJ)I"⟩,
  ⟨"FormatPress$Arguments", "addText", "(LFormatPress$Line;)I"⟩,
  ⟨"FormatPress$Arguments", "sort", "(I)I"⟩,
  ⟨"FormatPress$Arguments", "value", "(I)J"⟩,
  ⟨"FormatPress$Arguments", "textByte", "(II)I"⟩,
  ⟨"FormatPress$Spec", "<init>", "()V"⟩,
  ⟨"FormatPress$Spec", "scan", "(LFormatPress$Line;I)I"⟩,
  ⟨"FormatPress$Spec", "scanNumber", "(LFormatPress$Line;)Z"⟩,
  ⟨"FormatPress$Spec", "scanFlags", "(LFormatPress$Line;)V"⟩,
  ⟨"FormatPress$Spec", "scanWidth", "(LFormatPress$Line;)Z"⟩,
  ⟨"FormatPress$Spec", "scanPrecision", "(LFormatPress$Line;)Z"⟩,
  ⟨"FormatPress$Spec", "scanConversion", "(LFormatPress$Line;)Z"⟩,
  ⟨"FormatPress$Spec", "digitsFrom", "(LFormatPress$Line;I)I"⟩,
  ⟨"FormatPress$Spec", "isDigit", "(I)Z"⟩,
  ⟨"FormatPress$Spec", "valueOf", "(LFormatPress$Line;I)I"⟩,
  ⟨"FormatPress$Spec", "faultOfParts", "()I"⟩,
  ⟨"FormatPress$Spec", "flagsTaken", "()I"⟩,
  ⟨"FormatPress$Spec", "last", "()I"⟩,
  ⟨"FormatPress$Spec", "number", "()I"⟩,
  ⟨"FormatPress$Spec", "has", "(I)Z"⟩,
  ⟨"FormatPress$Spec", "width", "()I"⟩,
  ⟨"FormatPress$Spec", "precision", "()I"⟩,
  ⟨"FormatPress$Spec", "conversion", "()I"⟩,
  ⟨"FormatPress$Spec", "capital", "()Z"⟩,
  ⟨"FormatPress$Spec", "suffix", "()I"⟩,
  ⟨"FormatPress$Composer", "<init>", "(LFormatPress$Spec;LFormatPress$Arguments;LFormatPress$Line;)V"⟩,
  ⟨"FormatPress$Composer", "begin", "()V"⟩,
  ⟨"FormatPress$Composer", "copy", "(I)I"⟩,
  ⟨"FormatPress$Composer", "press", "()I"⟩,
  ⟨"FormatPress$Composer", "choose", "()I"⟩,
  ⟨"FormatPress$Composer", "pick", "()I"⟩,
  ⟨"FormatPress$Composer", "goesTogether", "()Z"⟩,
  ⟨"FormatPress$Composer", "writeArgument", "()V"⟩,
  ⟨"FormatPress$Composer", "writeAny", "()V"⟩,
  ⟨"FormatPress$Composer", "writeWhole", "()V"⟩,
  ⟨"FormatPress$Composer", "writeBits", "(Ljava/lang/String;I)V"⟩,
  ⟨"FormatPress$Piece", "<init>", "()V"⟩,
  ⟨"FormatPress$Piece", "start", "()V"⟩,
  ⟨"FormatPress$Piece", "add", "(I)V"⟩,
  ⟨"FormatPress$Piece", "addAll", "(Ljava/lang/String;)V"⟩,
  ⟨"FormatPress$Piece", "addFirst", "(Ljava/lang/String;I)V"⟩,
  ⟨"FormatPress$Piece", "addDigit", "(I)V"⟩,
  ⟨"FormatPress$Piece", "addZeros", "(I)V"⟩,
  ⟨"FormatPress$Piece", "open", "(ZLFormatPress$Spec;)V"⟩,
  ⟨"FormatPress$Piece", "close", "(ZLFormatPress$Spec;)V"⟩,
  ⟨"FormatPress$Piece", "markZeros", "(LFormatPress$Spec;)V"⟩,
  ⟨"FormatPress$Piece", "addSize", "(JIZ)V"⟩,
  ⟨"FormatPress$Piece", "addSigned", "(J)V"⟩,
  ⟨"FormatPress$Piece", "addBits", "(JII)V"⟩,
  ⟨"FormatPress$Piece", "addCharacter", "(I)V"⟩,
  ⟨"FormatPress$Piece", "addContinuation", "(I)V"⟩,
  ⟨"FormatPress$Piece", "cut", "(I)V"⟩,
  ⟨"FormatPress$Piece", "toCapitals", "()V"⟩,
  ⟨"FormatPress$Piece", "writeTo", "(LFormatPress$Line;IZ)Z"⟩,
  ⟨"FormatPress$Moment", "<init>", "()V"⟩,
  ⟨"FormatPress$Moment", "take", "(J)V"⟩,
  ⟨"FormatPress$Moment", "takeDay", "(J)V"⟩,
  ⟨"FormatPress$Moment", "isLeapYear", "()Z"⟩,
  ⟨"FormatPress$Moment", "write", "(LFormatPress$Piece;I)V"⟩,
  ⟨"FormatPress$Moment", "writeTimes", "(LFormatPress$Piece;Ljava/lang/String;)V"⟩,
  ⟨"FormatPress$Moment", "writePart", "(LFormatPress$Piece;I)V"⟩,
  ⟨"FormatPress$Moment", "writeYear", "(LFormatPress$Piece;I)V"⟩,
  ⟨"FormatPress$Moment", "writeTime", "(LFormatPress$Piece;I)V"⟩,
  ⟨"FormatPress$Moment", "hour", "()I"⟩,
  ⟨"FormatPress$Moment", "hourOfTwelve", "()I"⟩,
  ⟨"FormatPress$Moment", "monthName", "()Ljava/lang/String;"⟩,
  ⟨"FormatPress$Moment", "dayName", "()Ljava/lang/String;"⟩,
  ⟨"FormatPress$RealWriter", "<init>", "()V"⟩,
  ⟨"FormatPress$RealWriter", "take", "(JZ)V"⟩,
  ⟨"FormatPress$RealWriter", "split", "(JIII)V"⟩,
  ⟨"FormatPress$RealWriter", "writeShortest", "(LFormatPress$Piece;JZ)V"⟩,
  ⟨"FormatPress$RealWriter", "write", "(LFormatPress$Piece;LFormatPress$Spec;JZ)V"⟩,
  ⟨"FormatPress$RealWriter", "writeDecimal", "(LFormatPress$Piece;LFormatPress$Spec;)V"⟩,
  ⟨"FormatPress$RealWriter", "writeFixed", "(LFormatPress$Piece;LFormatPress$Spec;I)V"⟩,
  ⟨"FormatPress$RealWriter", "writeScientific", "(LFormatPress$Piece;LFormatPress$Spec;I)V"⟩,
  ⟨"FormatPress$RealWriter", "writeBehindPoint", "(LFormatPress$Piece;LFormatPress$Spec;II)V"⟩,
  ⟨"FormatPress$RealWriter", "writeSixteens", "(LFormatPress$Piece;LFormatPress$Spec;)V"⟩,
  ⟨"FormatPress$RealWriter", "align", "()V"⟩,
  ⟨"FormatPress$RealWriter", "roundSixteens", "(I)V"⟩,
  ⟨"FormatPress$RealWriter", "sixteensNeeded", "()I"⟩,
  ⟨"FormatPress$Decimal", "<init>", "()V"⟩,
  ⟨"FormatPress$Decimal", "load", "(JI)V"⟩,
  ⟨"FormatPress$Decimal", "power", "(II)J"⟩,
  ⟨"FormatPress$Decimal", "multiply", "(J)V"⟩,
  ⟨"FormatPress$Decimal", "spread", "(I)V"⟩,
  ⟨"FormatPress$Decimal", "point", "()I"⟩,
  ⟨"FormatPress$Decimal", "digitAt", "(I)I"⟩,
  ⟨"FormatPress$Decimal", "round", "(I)V"⟩,
  ⟨"FormatPress$Decimal", "countUp", "()V"⟩,
  ⟨"FormatPress$Decimal", "head", "(I)J"⟩,
  ⟨"FormatPress$Decimal", "goesOn", "(I)Z"⟩,
  ⟨"FormatPress$Decimal", "headDigits", "(I)I"⟩,
  ⟨"FormatPress$Shortest", "<init>", "()V"⟩,
  ⟨"FormatPress$Shortest", "write", "(LFormatPress$Piece;LFormatPress$Decimal;JIZ)V"⟩,
  ⟨"FormatPress$Shortest", "find", "()J"⟩,
  ⟨"FormatPress$Shortest", "readsFromBelow", "(J)Z"⟩,
  ⟨"FormatPress$Shortest", "readsFromAbove", "(J)Z"⟩,
  ⟨"FormatPress$Shortest", "nearer", "(JJJ)J"⟩,
  ⟨"FormatPress$Shortest", "writePlain", "(LFormatPress$Piece;JI)V"⟩,
  ⟨"FormatPress$Shortest", "endOf", "(J)I"⟩,
  ⟨"FormatPress$Shortest", "digitOf", "(JI)I"⟩,
  ⟨"FormatPress$NumberReader", "<init>", "(LFormatPress$Line;)V"⟩,
  ⟨"FormatPress$NumberReader", "bits", "()J"⟩,
  ⟨"FormatPress$NumberReader", "take", "(Z)Z"⟩,
  ⟨"FormatPress$NumberReader", "trim", "()V"⟩,
  ⟨"FormatPress$NumberReader", "peek", "()I"⟩,
  ⟨"FormatPress$NumberReader", "takeSign", "()Z"⟩,
  ⟨"FormatPress$NumberReader", "isRest", "(Ljava/lang/String;)Z"⟩,
  ⟨"FormatPress$NumberReader", "takeDigits", "(I)V"⟩,
  ⟨"FormatPress$NumberReader", "countDigit", "(IZ)V"⟩,
  ⟨"FormatPress$NumberReader", "digitOf", "(II)I"⟩,
  ⟨"FormatPress$NumberReader", "takeExponent", "(Z)Z"⟩,
  ⟨"FormatPress$NumberReader", "takeSuffix", "()V"⟩,
  ⟨"FormatPress$NumberReader", "valueOfSixteens", "()J"⟩,
  ⟨"FormatPress$NumberReader", "valueOfTens", "()J"⟩,
  ⟨"FormatPress$NumberReader", "signed", "(J)J"⟩,
  ⟨"FormatPress$Binary", "<init>", "()V"⟩,
  ⟨"FormatPress$Binary", "infinity", "(Z)J"⟩,
  ⟨"FormatPress$Binary", "empty", "()V"⟩,
  ⟨"FormatPress$Binary", "multiplyAdd", "(JJ)V"⟩,
  ⟨"FormatPress$Binary", "multiplyByFives", "(I)V"⟩,
  ⟨"FormatPress$Binary", "divideByFives", "(I)V"⟩,
  ⟨"FormatPress$Binary", "raise", "(I)V"⟩,
  ⟨"FormatPress$Binary", "divide", "(J)V"⟩,
  ⟨"FormatPress$Binary", "length", "()I"⟩,
  ⟨"FormatPress$Binary", "bit", "(I)Z"⟩,
  ⟨"FormatPress$Binary", "anyBitBelow", "(I)Z"⟩,
  ⟨"FormatPress$Binary", "rounded", "(IZ)J"⟩,
  ⟨"FormatPress$Binary", "bitsFrom", "(II)J"⟩,
  ⟨"FormatPressModel", "<init>", "()V"⟩,
  ⟨"FormatPressModel", "thrown", "()I"⟩,
  ⟨"FormatPressModel", "rounded", "(I)V"⟩,
  ⟨"FormatPressModel", "raise", "()V"⟩,
  ⟨"FormatPressModel", "digitOf", "(I)I"⟩,
  ⟨"FormatPressModel", "mantissa", "(J)J"⟩,
  ⟨"FormatPressModel", "exponent", "(J)I"⟩,
  ⟨"FormatPressModel", "isNaN", "(J)Z"⟩,
  ⟨"FormatPressModel", "isFar", "(J)Z"⟩,
  ⟨"FormatPressModel", "wide", "(I)J"⟩,
  ⟨"FormatPressModel", "shortest", "(JIZ)V"⟩,
  ⟨"FormatPressModel", "cut", "(I)V"⟩,
  ⟨"FormatPressModel", "isIn", "(Z)Z"⟩,
  ⟨"FormatPressModel", "compare", "(LFormatPressModel$Decimal;)I"⟩,
  ⟨"FormatPressModel", "put", "(I)V"⟩,
  ⟨"FormatPressModel", "say", "(Ljava/lang/String;)V"⟩,
  ⟨"FormatPressModel", "sayNumber", "(JI)V"⟩,
  ⟨"FormatPressModel", "character", "(I)V"⟩,
  ⟨"FormatPressModel", "shortText", "(JZ)V"⟩,
  ⟨"FormatPressModel", "has", "(II)Z"⟩,
  ⟨"FormatPressModel", "digit", "(I)V"⟩,
  ⟨"FormatPressModel", "laid", "(ZZZ)V"⟩,
  ⟨"FormatPressModel", "whole", "(I)V"⟩,
  ⟨"FormatPressModel", "real", "()V"⟩,
  ⟨"FormatPressModel", "fixed", "(I)V"⟩,
  ⟨"FormatPressModel", "scientific", "(I)V"⟩,
  ⟨"FormatPressModel", "general", "(I)V"⟩,
  ⟨"FormatPressModel", "hex", "(J)V"⟩,
  ⟨"FormatPressModel", "name", "(Ljava/lang/String;IZ)V"⟩,
  ⟨"FormatPressModel", "isLeap", "(J)Z"⟩,
  ⟨"FormatPressModel", "days", "(JI)I"⟩,
  ⟨"FormatPressModel", "time", "(I)V"⟩,
  ⟨"FormatPressModel", "times", "(Ljava/lang/String;)V"⟩,
  ⟨"FormatPressModel", "signed", "(J)V"⟩,
  ⟨"FormatPressModel", "at", "(I)I"⟩,
  ⟨"FormatPressModel", "isDigit", "(I)Z"⟩,
  ⟨"FormatPressModel", "numberEnd", "(I)I"⟩,
  ⟨"FormatPressModel", "numberAt", "(II)I"⟩,
  ⟨"FormatPressModel", "spec", "(I)I"⟩,
  ⟨"FormatPressModel", "taken", "(I)I"⟩,
  ⟨"FormatPressModel", "argument", "()I"⟩,
  ⟨"FormatPressModel", "make", "()V"⟩,
  ⟨"FormatPressModel", "text", "(IJ)V"⟩,
  ⟨"FormatPressModel", "one", "()I"⟩,
  ⟨"FormatPressModel", "rowAt", "(I)I"⟩,
  ⟨"FormatPressModel", "hexOf", "(I)I"⟩,
  ⟨"FormatPressModel", "isWord", "(Ljava/lang/String;)Z"⟩,
  ⟨"FormatPressModel", "reads", "(Z)J"⟩,
  ⟨"FormatPressModel", "power", "(I)I"⟩,
  ⟨"FormatPressModel", "decimals", "(Z)J"⟩,
  ⟨"FormatPressModel", "nearest", "(Z)J"⟩,
  ⟨"FormatPressModel", "packed", "(JIZ)J"⟩,
  ⟨"FormatPressModel", "bits", "()I"⟩,
  ⟨"FormatPressModel", "whole", "()J"⟩,
  ⟨"FormatPressModel", "sixteens", "(Z)J"⟩,
  ⟨"FormatPressModel", "row", "(JIZ)I"⟩,
  ⟨"FormatPressModel", "format", "()I"⟩,
  ⟨"FormatPressModel", "clear", "()I"⟩,
  ⟨"FormatPressModel", "argument", "(IJI)I"⟩,
  ⟨"FormatPressModel", "whole", "(IJ)I"⟩,
  ⟨"FormatPressModel", "real", "(JZ)I"⟩,
  ⟨"FormatPressModel", "text", "()I"⟩,
  ⟨"FormatPressModel", "run", "()I"⟩,
  ⟨"FormatPressModel", "kind", "()I"⟩,
  ⟨"FormatPressModel", "place", "()I"⟩,
  ⟨"FormatPressModel", "output", "(I)J"⟩,
  ⟨"FormatPressModel", "digest", "()J"⟩,
  ⟨"FormatPressModel", "read", "(Z)J"⟩,
  ⟨"FormatPressModel$Decimal", "<init>", "()V"⟩,
  ⟨"FormatPressModel$Decimal", "clear", "()V"⟩,
  ⟨"FormatPressModel$Decimal", "set", "(J)V"⟩,
  ⟨"FormatPressModel$Decimal", "twice", "()V"⟩,
  ⟨"FormatPressModel$Decimal", "half", "()V"⟩,
  ⟨"FormatPressModel$Decimal", "set", "(JI)V"⟩,
  ⟨"FormatPressModel$Decimal", "digit", "(I)I"⟩,
  ⟨"FormatPressModel$Decimal", "isZero", "()Z"⟩,
  ⟨"FormatPressModel$Decimal", "top", "()I"⟩,
  ⟨"FormatPressModel$Decimal", "low", "()I"⟩,
  ⟨"FormatPressModel$Decimal", "isBelow", "(I)Z"⟩,
  ⟨"FormatPressModel$Decimal", "add", "(II)V"⟩,
  ⟨"java/lang/String", "length", "()I"⟩,
  ⟨"java/lang/String", "charAt", "(I)C"⟩,
  ⟨"java/lang/String", "indexOf", "(I)I"⟩,
  ⟨"java/lang/String", "indexOf", "(II)I"⟩,
  ⟨"java/lang/String", "coder", "()B"⟩,
  ⟨"java/lang/String", "isLatin1", "()Z"⟩,
  ⟨"java/lang/String", "checkIndex", "(II)V"⟩,
  ⟨"FormatPressLaw", "row", "(LFormatPress;JIZ[J)I"⟩,
  ⟨"FormatPressLaw", "format", "(LFormatPress;[J)I"⟩,
  ⟨"FormatPressLaw", "whole", "(LFormatPress;IJ[J)I"⟩,
  ⟨"FormatPressLaw", "real", "(LFormatPress;JZ[J)I"⟩,
  ⟨"FormatPressLaw", "text", "(LFormatPress;[J)I"⟩,
  ⟨"FormatPressLaw", "run", "(LFormatPress;[J)I"⟩,
  ⟨"FormatPressLaw", "output", "(LFormatPress;I[J)I"⟩,
  ⟨"FormatPressLaw", "read", "(LFormatPress;Z[J)I"⟩,
  ⟨"FormatPressLaw", "law", "([I)Z"⟩,
  ⟨"java/lang/StringLatin1", "charAt", "([BI)C"⟩,
  ⟨"java/lang/StringLatin1", "canEncode", "(I)Z"⟩,
  ⟨"java/lang/StringLatin1", "indexOf", "([BIII)I"⟩,
  ⟨"java/lang/StringLatin1", "indexOfChar", "([BIII)I"⟩,
  ⟨"java/lang/Math", "floorDiv", "(JJ)J"⟩,
  ⟨"java/lang/Math", "floorMod", "(JJ)J"⟩,
  ⟨"java/lang/Math", "abs", "(I)I"⟩,
  ⟨"java/lang/Math", "max", "(II)I"⟩,
  ⟨"java/lang/Math", "min", "(II)I"⟩,
  ⟨"java/lang/Math", "min", "(JJ)J"⟩,
  ⟨"java/lang/Long", "numberOfLeadingZeros", "(J)I"⟩,
  ⟨"java/lang/Integer", "numberOfLeadingZeros", "(I)I"⟩,
  ⟨"jdk/internal/util/Preconditions", "checkIndex", "(IILjava/util/function/BiFunction;)I"⟩] : List MethodName).getD k ⟨"", "", ""⟩
abbrev mK : Type := Nat × Nat × Nat × Int
def mlk0 (i : Nat) : mK := (bif Nat.blt i 97 then (bif Nat.blt i 49 then (bif Nat.blt i 27 then (bif Nat.blt i 18 then (bif Nat.blt i 11 then (bif Nat.blt i 7 then (bif Nat.beq i 1 then (9, 0, 0, 0) else (99, 0, 0, 0)) else (bif Nat.beq i 7 then (2, 1, 0, 0) else (99, 0, 0, 0))) else (bif Nat.blt i 14 then (bif Nat.beq i 11 then (1, 15, 2, 0) else (99, 0, 0, 0)) else (bif Nat.beq i 14 then (0, 0, 0, 0) else (99, 0, 0, 0)))) else (bif Nat.blt i 24 then (bif Nat.blt i 21 then (bif Nat.beq i 18 then (0, 0, 1, 0) else (99, 0, 0, 0)) else (bif Nat.beq i 21 then (0, 0, 2, 0) else (99, 0, 0, 0))) else (bif Nat.blt i 26 then (bif Nat.beq i 24 then (2, 3, 0, 0) else (99, 0, 0, 0)) else (bif Nat.beq i 26 then (10, 37, 1, 0) else (99, 0, 0, 0))))) else (bif Nat.blt i 38 then (bif Nat.blt i 33 then (bif Nat.blt i 31 then (bif Nat.beq i 27 then (0, 0, 3, 0) else (99, 0, 0, 0)) else (bif Nat.beq i 31 then (2, 2, 0, 0) else (99, 0, 0, 0))) else (bif Nat.blt i 34 then (bif Nat.beq i 33 then (10, 23, 1, 0) else (99, 0, 0, 0)) else (bif Nat.beq i 34 then (0, 0, 4, 0) else (99, 0, 0, 0)))) else (bif Nat.blt i 43 then (bif Nat.blt i 40 then (bif Nat.beq i 38 then (2, 4, 0, 0) else (99, 0, 0, 0)) else (bif Nat.beq i 40 then (1, 57, 4, 0) else (99, 0, 0, 0))) else (bif Nat.blt i 47 then (bif Nat.beq i 43 then (0, 0, 5, 0) else (99, 0, 0, 0)) else (bif Nat.beq i 47 then (2, 10, 0, 0) else (99, 0, 0, 0)))))) else (bif Nat.blt i 74 then (bif Nat.blt i 64 then (bif Nat.blt i 56 then (bif Nat.blt i 52 then (bif Nat.beq i 49 then (1, 133, 2, 0) else (99, 0, 0, 0)) else (bif Nat.beq i 52 then (0, 0, 6, 0) else (99, 0, 0, 0))) else (bif Nat.blt i 60 then (bif Nat.beq i 56 then (0, 0, 7, 0) else (99, 0, 0, 0)) else (bif Nat.beq i 60 then (0, 0, 8, 0) else (99, 0, 0, 0)))) else (bif Nat.blt i 69 then (bif Nat.blt i 67 then (bif Nat.beq i 64 then (0, 0, 9, 0) else (99, 0, 0, 0)) else (bif Nat.beq i 67 then (7, 0, 0, 0) else (99, 0, 0, 0))) else (bif Nat.blt i 71 then (bif Nat.beq i 69 then (5, 0, 0, 0) else (99, 0, 0, 0)) else (bif Nat.beq i 71 then (8, 0, 0, 0) else (99, 0, 0, 0))))) else (bif Nat.blt i 86 then (bif Nat.blt i 80 then (bif Nat.blt i 78 then (bif Nat.beq i 74 then (1, 14, 2, 0) else (99, 0, 0, 0)) else (bif Nat.beq i 78 then (5, 1, 0, 0) else (99, 0, 0, 0))) else (bif Nat.blt i 84 then (bif Nat.beq i 80 then (1, 16, 1, 0) else (99, 0, 0, 0)) else (bif Nat.beq i 84 then (5, 2, 0, 0) else (99, 0, 0, 0)))) else (bif Nat.blt i 92 then (bif Nat.blt i 89 then (bif Nat.beq i 86 then (1, 21, 1, 0) else (99, 0, 0, 0)) else (bif Nat.beq i 89 then (1, 19, 2, 0) else (99, 0, 0, 0))) else (bif Nat.blt i 94 then (bif Nat.beq i 92 then (5, 3, 0, 0) else (99, 0, 0, 0)) else (bif Nat.beq i 94 then (1, 22, 2, 0) else (99, 0, 0, 0))))))) else (bif Nat.blt i 142 then (bif Nat.blt i 123 then (bif Nat.blt i 111 then (bif Nat.blt i 105 then (bif Nat.blt i 101 then (bif Nat.beq i 97 then (1, 13, 3, 0) else (99, 0, 0, 0)) else (bif Nat.beq i 101 then (1, 17, 2, 0) else (99, 0, 0, 0))) else (bif Nat.blt i 109 then (bif Nat.beq i 105 then (1, 38, 3, 0) else (99, 0, 0, 0)) else (bif Nat.beq i 109 then (7, 1, 0, 0) else (99, 0, 0, 0)))) else (bif Nat.blt i 114 then (bif Nat.blt i 113 then (bif Nat.beq i 111 then (5, 8, 0, 0) else (99, 0, 0, 0)) else (bif Nat.beq i 113 then (8, 1, 0, 0) else (99, 0, 0, 0))) else (bif Nat.blt i 117 then (bif Nat.beq i 114 then (1, 49, 1, 0) else (99, 0, 0, 0)) else (bif Nat.beq i 117 then (1, 264, 2, 0) else (99, 0, 0, 0))))) else (bif Nat.blt i 133 then (bif Nat.blt i 127 then (bif Nat.blt i 125 then (bif Nat.beq i 123 then (1, 31, 1, 0) else (99, 0, 0, 0)) else (bif Nat.beq i 125 then (5, 9, 0, 0) else (99, 0, 0, 0))) else (bif Nat.blt i 131 then (bif Nat.beq i 127 then (1, 24, 1, 0) else (99, 0, 0, 0)) else (bif Nat.beq i 131 then (5, 10, 0, 0) else (99, 0, 0, 0)))) else (bif Nat.blt i 139 then (bif Nat.blt i 137 then (bif Nat.beq i 133 then (1, 29, 1, 0) else (99, 0, 0, 0)) else (bif Nat.beq i 137 then (7, 2, 0, 0) else (99, 0, 0, 0))) else (bif Nat.blt i 141 then (bif Nat.beq i 139 then (5, 11, 0, 0) else (99, 0, 0, 0)) else (bif Nat.beq i 141 then (8, 2, 0, 0) else (99, 0, 0, 0)))))) else (bif Nat.blt i 163 then (bif Nat.blt i 155 then (bif Nat.blt i 149 then (bif Nat.blt i 146 then (bif Nat.beq i 142 then (1, 25, 2, 0) else (99, 0, 0, 0)) else (bif Nat.beq i 146 then (1, 32, 3, 0) else (99, 0, 0, 0))) else (bif Nat.blt i 151 then (bif Nat.beq i 149 then (5, 12, 0, 0) else (99, 0, 0, 0)) else (bif Nat.beq i 151 then (1, 33, 2, 0) else (99, 0, 0, 0)))) else (bif Nat.blt i 159 then (bif Nat.blt i 157 then (bif Nat.beq i 155 then (7, 3, 0, 0) else (99, 0, 0, 0)) else (bif Nat.beq i 157 then (5, 13, 0, 0) else (99, 0, 0, 0))) else (bif Nat.blt i 160 then (bif Nat.beq i 159 then (8, 3, 0, 0) else (99, 0, 0, 0)) else (bif Nat.beq i 160 then (1, 58, 1, 0) else (99, 0, 0, 0))))) else (bif Nat.blt i 173 then (bif Nat.blt i 169 then (bif Nat.blt i 166 then (bif Nat.beq i 163 then (1, 59, 2, 0) else (99, 0, 0, 0)) else (bif Nat.beq i 166 then (1, 60, 1, 0) else (99, 0, 0, 0))) else (bif Nat.blt i 171 then (bif Nat.beq i 169 then (5, 51, 0, 0) else (99, 0, 0, 0)) else (bif Nat.beq i 171 then (5, 52, 0, 0) else (99, 0, 0, 0)))) else (bif Nat.blt i 177 then (bif Nat.blt i 175 then (bif Nat.beq i 173 then (4, 0, 0, 7) else (99, 0, 0, 0)) else (bif Nat.beq i 175 then (4, 0, 0, 31) else (99, 0, 0, 0))) else (bif Nat.blt i 181 then (bif Nat.beq i 177 then (1, 135, 2, 0) else (99, 0, 0, 0)) else (bif Nat.blt i 183 then (bif Nat.beq i 181 then (5, 55, 0, 0) else (99, 0, 0, 0)) else (bif Nat.beq i 183 then (1, 134, 1, 0) else (99, 0, 0, 0)))))))))
def mlk1 (i : Nat) : mK := (bif Nat.blt i 17 then (bif Nat.blt i 7 then (bif Nat.beq i 1 then (9, 0, 0, 0) else (99, 0, 0, 0)) else (bif Nat.blt i 13 then (bif Nat.beq i 7 then (0, 1, 0, 0) else (99, 0, 0, 0)) else (bif Nat.beq i 13 then (0, 1, 1, 0) else (99, 0, 0, 0)))) else (bif Nat.blt i 27 then (bif Nat.blt i 23 then (bif Nat.beq i 17 then (1, 265, 2, 0) else (99, 0, 0, 0)) else (bif Nat.beq i 23 then (1, 19, 2, 0) else (99, 0, 0, 0))) else (bif Nat.blt i 33 then (bif Nat.beq i 27 then (11, 0, 0, 0) else (99, 0, 0, 0)) else (bif Nat.beq i 33 then (1, 21, 1, 0) else (99, 0, 0, 0)))))
def mlk2 (i : Nat) : mK := (bif Nat.blt i 29 then (bif Nat.blt i 17 then (bif Nat.blt i 9 then (bif Nat.beq i 1 then (9, 0, 0, 0) else (99, 0, 0, 0)) else (bif Nat.blt i 13 then (bif Nat.beq i 9 then (0, 2, 0, 0) else (99, 0, 0, 0)) else (bif Nat.beq i 13 then (0, 2, 1, 0) else (99, 0, 0, 0)))) else (bif Nat.blt i 21 then (bif Nat.beq i 17 then (0, 2, 2, 0) else (99, 0, 0, 0)) else (bif Nat.blt i 23 then (bif Nat.beq i 21 then (4, 0, 0, 1114111) else (99, 0, 0, 0)) else (bif Nat.beq i 23 then (1, 264, 2, 0) else (99, 0, 0, 0))))) else (bif Nat.blt i 40 then (bif Nat.blt i 32 then (bif Nat.beq i 29 then (1, 265, 2, 0) else (99, 0, 0, 0)) else (bif Nat.blt i 36 then (bif Nat.beq i 32 then (0, 2, 3, 0) else (99, 0, 0, 0)) else (bif Nat.beq i 36 then (1, 29, 1, 0) else (99, 0, 0, 0)))) else (bif Nat.blt i 46 then (bif Nat.beq i 40 then (1, 16, 1, 0) else (99, 0, 0, 0)) else (bif Nat.blt i 50 then (bif Nat.beq i 46 then (1, 17, 2, 0) else (99, 0, 0, 0)) else (bif Nat.beq i 50 then (1, 32, 3, 0) else (99, 0, 0, 0))))))
def mlk3 (i : Nat) : mK := (bif Nat.blt i 57 then (bif Nat.blt i 30 then (bif Nat.blt i 17 then (bif Nat.blt i 7 then (bif Nat.beq i 1 then (9, 0, 0, 0) else (99, 0, 0, 0)) else (bif Nat.blt i 13 then (bif Nat.beq i 7 then (0, 3, 0, 0) else (99, 0, 0, 0)) else (bif Nat.beq i 13 then (1, 39, 2, 0) else (99, 0, 0, 0)))) else (bif Nat.blt i 24 then (bif Nat.blt i 21 then (bif Nat.beq i 17 then (1, 40, 2, 0) else (99, 0, 0, 0)) else (bif Nat.beq i 21 then (1, 41, 2, 0) else (99, 0, 0, 0))) else (bif Nat.blt i 27 then (bif Nat.beq i 24 then (1, 42, 2, 0) else (99, 0, 0, 0)) else (bif Nat.beq i 27 then (1, 43, 2, 0) else (99, 0, 0, 0))))) else (bif Nat.blt i 43 then (bif Nat.blt i 34 then (bif Nat.beq i 30 then (1, 47, 1, 0) else (99, 0, 0, 0)) else (bif Nat.blt i 37 then (bif Nat.beq i 34 then (0, 3, 1, 0) else (99, 0, 0, 0)) else (bif Nat.beq i 37 then (1, 17, 2, 0) else (99, 0, 0, 0)))) else (bif Nat.blt i 50 then (bif Nat.blt i 47 then (bif Nat.beq i 43 then (1, 44, 2, 0) else (99, 0, 0, 0)) else (bif Nat.beq i 47 then (1, 46, 3, 0) else (99, 0, 0, 0))) else (bif Nat.blt i 53 then (bif Nat.beq i 50 then (0, 3, 2, 0) else (99, 0, 0, 0)) else (bif Nat.beq i 53 then (0, 3, 3, 0) else (99, 0, 0, 0)))))) else (bif Nat.blt i 80 then (bif Nat.blt i 67 then (bif Nat.blt i 60 then (bif Nat.beq i 57 then (1, 16, 1, 0) else (99, 0, 0, 0)) else (bif Nat.blt i 62 then (bif Nat.beq i 60 then (5, 4, 0, 0) else (99, 0, 0, 0)) else (bif Nat.beq i 62 then (1, 243, 2, 0) else (99, 0, 0, 0)))) else (bif Nat.blt i 74 then (bif Nat.blt i 71 then (bif Nat.beq i 67 then (1, 51, 2, 0) else (99, 0, 0, 0)) else (bif Nat.beq i 71 then (0, 3, 4, 0) else (99, 0, 0, 0))) else (bif Nat.blt i 77 then (bif Nat.beq i 74 then (0, 3, 5, 0) else (99, 0, 0, 0)) else (bif Nat.beq i 77 then (0, 3, 8, 0) else (99, 0, 0, 0))))) else (bif Nat.blt i 90 then (bif Nat.blt i 85 then (bif Nat.blt i 83 then (bif Nat.beq i 80 then (0, 3, 6, 0) else (99, 0, 0, 0)) else (bif Nat.beq i 83 then (5, 5, 0, 0) else (99, 0, 0, 0))) else (bif Nat.blt i 88 then (bif Nat.beq i 85 then (0, 3, 7, 0) else (99, 0, 0, 0)) else (bif Nat.beq i 88 then (5, 6, 0, 0) else (99, 0, 0, 0)))) else (bif Nat.blt i 99 then (bif Nat.blt i 93 then (bif Nat.beq i 90 then (1, 45, 1, 0) else (99, 0, 0, 0)) else (bif Nat.beq i 93 then (1, 265, 2, 0) else (99, 0, 0, 0))) else (bif Nat.blt i 102 then (bif Nat.beq i 99 then (1, 48, 1, 0) else (99, 0, 0, 0)) else (bif Nat.beq i 102 then (5, 7, 0, 0) else (99, 0, 0, 0)))))))
def mlk4 (i : Nat) : mK := (bif Nat.blt i 110 then (bif Nat.blt i 55 then (bif Nat.blt i 25 then (bif Nat.blt i 16 then (bif Nat.blt i 9 then (bif Nat.blt i 7 then (bif Nat.beq i 1 then (9, 0, 0, 0) else (99, 0, 0, 0)) else (bif Nat.beq i 7 then (2, 5, 0, 0) else (99, 0, 0, 0))) else (bif Nat.blt i 10 then (bif Nat.beq i 9 then (10, 68, 1, 0) else (99, 0, 0, 0)) else (bif Nat.beq i 10 then (0, 4, 3, 0) else (99, 0, 0, 0)))) else (bif Nat.blt i 19 then (bif Nat.blt i 18 then (bif Nat.beq i 16 then (2, 7, 0, 0) else (99, 0, 0, 0)) else (bif Nat.beq i 18 then (10, 99, 1, 0) else (99, 0, 0, 0))) else (bif Nat.blt i 23 then (bif Nat.beq i 19 then (0, 4, 4, 0) else (99, 0, 0, 0)) else (bif Nat.beq i 23 then (2, 6, 0, 0) else (99, 0, 0, 0))))) else (bif Nat.blt i 38 then (bif Nat.blt i 30 then (bif Nat.blt i 26 then (bif Nat.beq i 25 then (10, 86, 1, 0) else (99, 0, 0, 0)) else (bif Nat.beq i 26 then (0, 4, 5, 0) else (99, 0, 0, 0))) else (bif Nat.blt i 34 then (bif Nat.beq i 30 then (0, 4, 0, 0) else (99, 0, 0, 0)) else (bif Nat.beq i 34 then (0, 4, 1, 0) else (99, 0, 0, 0)))) else (bif Nat.blt i 46 then (bif Nat.blt i 42 then (bif Nat.beq i 38 then (0, 4, 2, 0) else (99, 0, 0, 0)) else (bif Nat.beq i 42 then (0, 4, 6, 0) else (99, 0, 0, 0))) else (bif Nat.blt i 49 then (bif Nat.beq i 46 then (0, 4, 7, 0) else (99, 0, 0, 0)) else (bif Nat.beq i 49 then (1, 18, 2, 0) else (99, 0, 0, 0)))))) else (bif Nat.blt i 82 then (bif Nat.blt i 69 then (bif Nat.blt i 64 then (bif Nat.blt i 61 then (bif Nat.beq i 55 then (1, 19, 2, 0) else (99, 0, 0, 0)) else (bif Nat.beq i 61 then (1, 69, 1, 0) else (99, 0, 0, 0))) else (bif Nat.blt i 68 then (bif Nat.beq i 64 then (1, 54, 1, 0) else (99, 0, 0, 0)) else (bif Nat.beq i 68 then (1, 70, 2, 0) else (99, 0, 0, 0)))) else (bif Nat.blt i 75 then (bif Nat.blt i 72 then (bif Nat.beq i 69 then (1, 61, 1, 0) else (99, 0, 0, 0)) else (bif Nat.beq i 72 then (1, 64, 1, 0) else (99, 0, 0, 0))) else (bif Nat.blt i 79 then (bif Nat.beq i 75 then (1, 55, 1, 0) else (99, 0, 0, 0)) else (bif Nat.beq i 79 then (1, 84, 1, 0) else (99, 0, 0, 0))))) else (bif Nat.blt i 95 then (bif Nat.blt i 88 then (bif Nat.blt i 85 then (bif Nat.beq i 82 then (1, 52, 1, 0) else (99, 0, 0, 0)) else (bif Nat.beq i 85 then (1, 51, 2, 0) else (99, 0, 0, 0))) else (bif Nat.blt i 92 then (bif Nat.beq i 88 then (1, 85, 4, 0) else (99, 0, 0, 0)) else (bif Nat.beq i 92 then (1, 62, 1, 0) else (99, 0, 0, 0)))) else (bif Nat.blt i 104 then (bif Nat.blt i 100 then (bif Nat.beq i 95 then (1, 30, 1, 0) else (99, 0, 0, 0)) else (bif Nat.beq i 100 then (1, 34, 2, 0) else (99, 0, 0, 0))) else (bif Nat.blt i 106 then (bif Nat.beq i 104 then (0, 4, 8, 0) else (99, 0, 0, 0)) else (bif Nat.beq i 106 then (1, 35, 2, 0) else (99, 0, 0, 0))))))) else (bif Nat.blt i 156 then (bif Nat.blt i 133 then (bif Nat.blt i 123 then (bif Nat.blt i 116 then (bif Nat.blt i 113 then (bif Nat.beq i 110 then (0, 4, 9, 0) else (99, 0, 0, 0)) else (bif Nat.beq i 113 then (1, 63, 1, 0) else (99, 0, 0, 0))) else (bif Nat.blt i 120 then (bif Nat.beq i 116 then (1, 24, 1, 0) else (99, 0, 0, 0)) else (bif Nat.beq i 120 then (1, 50, 1, 0) else (99, 0, 0, 0)))) else (bif Nat.blt i 129 then (bif Nat.blt i 126 then (bif Nat.beq i 123 then (1, 26, 1, 0) else (99, 0, 0, 0)) else (bif Nat.beq i 126 then (1, 27, 1, 0) else (99, 0, 0, 0))) else (bif Nat.blt i 131 then (bif Nat.beq i 129 then (5, 14, 0, 0) else (99, 0, 0, 0)) else (bif Nat.beq i 131 then (5, 15, 0, 0) else (99, 0, 0, 0))))) else (bif Nat.blt i 145 then (bif Nat.blt i 140 then (bif Nat.blt i 137 then (bif Nat.beq i 133 then (1, 71, 2, 0) else (99, 0, 0, 0)) else (bif Nat.beq i 137 then (1, 53, 1, 0) else (99, 0, 0, 0))) else (bif Nat.blt i 143 then (bif Nat.beq i 140 then (1, 83, 2, 0) else (99, 0, 0, 0)) else (bif Nat.beq i 143 then (5, 16, 0, 0) else (99, 0, 0, 0)))) else (bif Nat.blt i 151 then (bif Nat.blt i 148 then (bif Nat.beq i 145 then (1, 65, 1, 0) else (99, 0, 0, 0)) else (bif Nat.beq i 148 then (1, 81, 2, 0) else (99, 0, 0, 0))) else (bif Nat.blt i 154 then (bif Nat.beq i 151 then (1, 66, 1, 0) else (99, 0, 0, 0)) else (bif Nat.beq i 154 then (5, 22, 0, 0) else (99, 0, 0, 0)))))) else (bif Nat.blt i 182 then (bif Nat.blt i 169 then (bif Nat.blt i 162 then (bif Nat.blt i 160 then (bif Nat.beq i 156 then (1, 67, 3, 0) else (99, 0, 0, 0)) else (bif Nat.beq i 160 then (5, 23, 0, 0) else (99, 0, 0, 0))) else (bif Nat.blt i 166 then (bif Nat.beq i 162 then (1, 87, 2, 0) else (99, 0, 0, 0)) else (bif Nat.beq i 166 then (1, 56, 1, 0) else (99, 0, 0, 0)))) else (bif Nat.blt i 176 then (bif Nat.blt i 173 then (bif Nat.beq i 169 then (1, 90, 3, 0) else (99, 0, 0, 0)) else (bif Nat.beq i 173 then (1, 103, 5, 0) else (99, 0, 0, 0))) else (bif Nat.blt i 180 then (bif Nat.beq i 176 then (1, 102, 4, 0) else (99, 0, 0, 0)) else (bif Nat.beq i 180 then (4, 0, 0, 200) else (99, 0, 0, 0))))) else (bif Nat.blt i 199 then (bif Nat.blt i 192 then (bif Nat.blt i 188 then (bif Nat.beq i 182 then (1, 266, 2, 0) else (99, 0, 0, 0)) else (bif Nat.beq i 188 then (1, 36, 3, 0) else (99, 0, 0, 0))) else (bif Nat.blt i 195 then (bif Nat.beq i 192 then (1, 79, 2, 0) else (99, 0, 0, 0)) else (bif Nat.beq i 195 then (1, 75, 3, 0) else (99, 0, 0, 0)))) else (bif Nat.blt i 207 then (bif Nat.blt i 203 then (bif Nat.beq i 199 then (1, 77, 2, 0) else (99, 0, 0, 0)) else (bif Nat.beq i 203 then (1, 78, 4, 0) else (99, 0, 0, 0))) else (bif Nat.blt i 210 then (bif Nat.beq i 207 then (1, 76, 3, 0) else (99, 0, 0, 0)) else (bif Nat.blt i 213 then (bif Nat.beq i 210 then (1, 28, 1, 0) else (99, 0, 0, 0)) else (bif Nat.beq i 213 then (1, 80, 4, 0) else (99, 0, 0, 0)))))))))
def mlk5 (i : Nat) : mK := (bif Nat.blt i 48 then (bif Nat.blt i 23 then (bif Nat.blt i 13 then (bif Nat.blt i 9 then (bif Nat.beq i 1 then (9, 0, 0, 0) else (99, 0, 0, 0)) else (bif Nat.beq i 9 then (0, 5, 0, 0) else (99, 0, 0, 0))) else (bif Nat.blt i 17 then (bif Nat.beq i 13 then (0, 5, 1, 0) else (99, 0, 0, 0)) else (bif Nat.blt i 20 then (bif Nat.beq i 17 then (0, 5, 2, 0) else (99, 0, 0, 0)) else (bif Nat.beq i 20 then (0, 5, 3, 0) else (99, 0, 0, 0))))) else (bif Nat.blt i 32 then (bif Nat.blt i 28 then (bif Nat.beq i 23 then (1, 241, 1, 0) else (99, 0, 0, 0)) else (bif Nat.beq i 28 then (1, 72, 3, 0) else (99, 0, 0, 0))) else (bif Nat.blt i 38 then (bif Nat.beq i 32 then (1, 265, 2, 0) else (99, 0, 0, 0)) else (bif Nat.blt i 42 then (bif Nat.beq i 38 then (1, 242, 2, 0) else (99, 0, 0, 0)) else (bif Nat.beq i 42 then (1, 70, 2, 0) else (99, 0, 0, 0)))))) else (bif Nat.blt i 67 then (bif Nat.blt i 58 then (bif Nat.blt i 52 then (bif Nat.beq i 48 then (1, 51, 2, 0) else (99, 0, 0, 0)) else (bif Nat.beq i 52 then (6, 0, 0, 0) else (99, 0, 0, 0))) else (bif Nat.blt i 60 then (bif Nat.beq i 58 then (4, 0, 0, 10) else (99, 0, 0, 0)) else (bif Nat.blt i 64 then (bif Nat.beq i 60 then (1, 78, 4, 0) else (99, 0, 0, 0)) else (bif Nat.beq i 64 then (1, 73, 2, 0) else (99, 0, 0, 0))))) else (bif Nat.blt i 74 then (bif Nat.blt i 70 then (bif Nat.beq i 67 then (1, 82, 2, 0) else (99, 0, 0, 0)) else (bif Nat.blt i 71 then (bif Nat.beq i 70 then (3, 0, 0, 65536) else (99, 0, 0, 0)) else (bif Nat.beq i 71 then (1, 264, 2, 0) else (99, 0, 0, 0)))) else (bif Nat.blt i 79 then (bif Nat.beq i 74 then (1, 18, 2, 0) else (99, 0, 0, 0)) else (bif Nat.blt i 80 then (bif Nat.beq i 79 then (1, 19, 2, 0) else (99, 0, 0, 0)) else (bif Nat.beq i 80 then (1, 20, 3, 0) else (99, 0, 0, 0)))))))
def mlk6 (i : Nat) : mK := (bif Nat.blt i 101 then (bif Nat.blt i 51 then (bif Nat.blt i 32 then (bif Nat.blt i 21 then (bif Nat.blt i 13 then (bif Nat.blt i 7 then (bif Nat.beq i 1 then (9, 0, 0, 0) else (99, 0, 0, 0)) else (bif Nat.beq i 7 then (0, 6, 0, 0) else (99, 0, 0, 0))) else (bif Nat.blt i 15 then (bif Nat.beq i 13 then (4, 0, 0, 86400000) else (99, 0, 0, 0)) else (bif Nat.beq i 15 then (1, 262, 2, 0) else (99, 0, 0, 0)))) else (bif Nat.blt i 28 then (bif Nat.blt i 25 then (bif Nat.beq i 21 then (0, 6, 1, 0) else (99, 0, 0, 0)) else (bif Nat.beq i 25 then (1, 261, 2, 0) else (99, 0, 0, 0))) else (bif Nat.blt i 30 then (bif Nat.beq i 28 then (4, 0, 0, 4) else (99, 0, 0, 0)) else (bif Nat.beq i 30 then (4, 0, 0, 7) else (99, 0, 0, 0))))) else (bif Nat.blt i 43 then (bif Nat.blt i 37 then (bif Nat.blt i 35 then (bif Nat.beq i 32 then (0, 6, 6, 0) else (99, 0, 0, 0)) else (bif Nat.beq i 35 then (4, 0, 0, 719468) else (99, 0, 0, 0))) else (bif Nat.blt i 41 then (bif Nat.beq i 37 then (1, 88, 2, 0) else (99, 0, 0, 0)) else (bif Nat.beq i 41 then (4, 0, 0, 146097) else (99, 0, 0, 0)))) else (bif Nat.blt i 45 then (bif Nat.blt i 44 then (bif Nat.beq i 43 then (3, 0, 0, 36524) else (99, 0, 0, 0)) else (bif Nat.beq i 44 then (3, 0, 0, 146096) else (99, 0, 0, 0))) else (bif Nat.blt i 48 then (bif Nat.beq i 45 then (0, 6, 4, 0) else (99, 0, 0, 0)) else (bif Nat.beq i 48 then (0, 6, 3, 0) else (99, 0, 0, 0)))))) else (bif Nat.blt i 73 then (bif Nat.blt i 63 then (bif Nat.blt i 56 then (bif Nat.blt i 53 then (bif Nat.beq i 51 then (4, 0, 0, 400) else (99, 0, 0, 0)) else (bif Nat.beq i 53 then (0, 6, 2, 0) else (99, 0, 0, 0))) else (bif Nat.blt i 60 then (bif Nat.beq i 56 then (1, 89, 1, 0) else (99, 0, 0, 0)) else (bif Nat.beq i 60 then (0, 6, 5, 0) else (99, 0, 0, 0)))) else (bif Nat.blt i 67 then (bif Nat.blt i 65 then (bif Nat.beq i 63 then (4, 0, 0, 100) else (99, 0, 0, 0)) else (bif Nat.beq i 65 then (5, 24, 0, 0) else (99, 0, 0, 0))) else (bif Nat.blt i 71 then (bif Nat.beq i 67 then (1, 91, 3, 0) else (99, 0, 0, 0)) else (bif Nat.beq i 71 then (5, 25, 0, 0) else (99, 0, 0, 0))))) else (bif Nat.blt i 83 then (bif Nat.blt i 79 then (bif Nat.blt i 75 then (bif Nat.beq i 73 then (5, 26, 0, 0) else (99, 0, 0, 0)) else (bif Nat.beq i 75 then (1, 95, 1, 0) else (99, 0, 0, 0))) else (bif Nat.blt i 81 then (bif Nat.beq i 79 then (5, 27, 0, 0) else (99, 0, 0, 0)) else (bif Nat.beq i 81 then (5, 28, 0, 0) else (99, 0, 0, 0)))) else (bif Nat.blt i 93 then (bif Nat.blt i 89 then (bif Nat.beq i 83 then (1, 71, 2, 0) else (99, 0, 0, 0)) else (bif Nat.beq i 89 then (1, 78, 4, 0) else (99, 0, 0, 0))) else (bif Nat.blt i 97 then (bif Nat.beq i 93 then (1, 70, 2, 0) else (99, 0, 0, 0)) else (bif Nat.beq i 97 then (1, 93, 3, 0) else (99, 0, 0, 0))))))) else (bif Nat.blt i 145 then (bif Nat.blt i 129 then (bif Nat.blt i 116 then (bif Nat.blt i 109 then (bif Nat.blt i 104 then (bif Nat.beq i 101 then (1, 92, 3, 0) else (99, 0, 0, 0)) else (bif Nat.beq i 104 then (1, 241, 1, 0) else (99, 0, 0, 0))) else (bif Nat.blt i 113 then (bif Nat.beq i 109 then (1, 242, 2, 0) else (99, 0, 0, 0)) else (bif Nat.beq i 113 then (1, 94, 3, 0) else (99, 0, 0, 0)))) else (bif Nat.blt i 124 then (bif Nat.blt i 120 then (bif Nat.beq i 116 then (1, 97, 1, 0) else (99, 0, 0, 0)) else (bif Nat.beq i 120 then (1, 72, 3, 0) else (99, 0, 0, 0))) else (bif Nat.blt i 127 then (bif Nat.beq i 124 then (1, 98, 1, 0) else (99, 0, 0, 0)) else (bif Nat.beq i 127 then (5, 48, 0, 0) else (99, 0, 0, 0))))) else (bif Nat.blt i 139 then (bif Nat.blt i 133 then (bif Nat.blt i 131 then (bif Nat.beq i 129 then (5, 49, 0, 0) else (99, 0, 0, 0)) else (bif Nat.beq i 131 then (4, 0, 0, 1000) else (99, 0, 0, 0))) else (bif Nat.blt i 136 then (bif Nat.beq i 133 then (1, 79, 2, 0) else (99, 0, 0, 0)) else (bif Nat.beq i 136 then (1, 96, 1, 0) else (99, 0, 0, 0)))) else (bif Nat.blt i 141 then (bif Nat.blt i 140 then (bif Nat.beq i 139 then (3, 0, 0, 60000) else (99, 0, 0, 0)) else (bif Nat.beq i 140 then (3, 0, 0, 3600000) else (99, 0, 0, 0))) else (bif Nat.blt i 143 then (bif Nat.beq i 141 then (5, 29, 0, 0) else (99, 0, 0, 0)) else (bif Nat.beq i 143 then (5, 30, 0, 0) else (99, 0, 0, 0)))))) else (bif Nat.blt i 161 then (bif Nat.blt i 153 then (bif Nat.blt i 149 then (bif Nat.blt i 147 then (bif Nat.beq i 145 then (5, 31, 0, 0) else (99, 0, 0, 0)) else (bif Nat.beq i 147 then (5, 32, 0, 0) else (99, 0, 0, 0))) else (bif Nat.blt i 151 then (bif Nat.beq i 149 then (5, 33, 0, 0) else (99, 0, 0, 0)) else (bif Nat.beq i 151 then (5, 34, 0, 0) else (99, 0, 0, 0)))) else (bif Nat.blt i 157 then (bif Nat.blt i 155 then (bif Nat.beq i 153 then (5, 35, 0, 0) else (99, 0, 0, 0)) else (bif Nat.beq i 155 then (5, 36, 0, 0) else (99, 0, 0, 0))) else (bif Nat.blt i 159 then (bif Nat.beq i 157 then (5, 37, 0, 0) else (99, 0, 0, 0)) else (bif Nat.beq i 159 then (5, 38, 0, 0) else (99, 0, 0, 0))))) else (bif Nat.blt i 169 then (bif Nat.blt i 165 then (bif Nat.blt i 163 then (bif Nat.beq i 161 then (5, 39, 0, 0) else (99, 0, 0, 0)) else (bif Nat.beq i 163 then (5, 40, 0, 0) else (99, 0, 0, 0))) else (bif Nat.blt i 167 then (bif Nat.beq i 165 then (5, 41, 0, 0) else (99, 0, 0, 0)) else (bif Nat.beq i 167 then (5, 42, 0, 0) else (99, 0, 0, 0)))) else (bif Nat.blt i 173 then (bif Nat.blt i 171 then (bif Nat.beq i 169 then (5, 43, 0, 0) else (99, 0, 0, 0)) else (bif Nat.beq i 171 then (5, 44, 0, 0) else (99, 0, 0, 0))) else (bif Nat.blt i 175 then (bif Nat.beq i 173 then (5, 45, 0, 0) else (99, 0, 0, 0)) else (bif Nat.blt i 177 then (bif Nat.beq i 175 then (5, 46, 0, 0) else (99, 0, 0, 0)) else (bif Nat.beq i 177 then (5, 47, 0, 0) else (99, 0, 0, 0)))))))))
def mlk7 (i : Nat) : mK := (bif Nat.blt i 84 then (bif Nat.blt i 39 then (bif Nat.blt i 19 then (bif Nat.blt i 10 then (bif Nat.blt i 7 then (bif Nat.beq i 1 then (9, 0, 0, 0) else (99, 0, 0, 0)) else (bif Nat.blt i 9 then (bif Nat.beq i 7 then (2, 8, 0, 0) else (99, 0, 0, 0)) else (bif Nat.beq i 9 then (10, 112, 1, 0) else (99, 0, 0, 0)))) else (bif Nat.blt i 16 then (bif Nat.beq i 10 then (0, 7, 0, 0) else (99, 0, 0, 0)) else (bif Nat.blt i 18 then (bif Nat.beq i 16 then (2, 9, 0, 0) else (99, 0, 0, 0)) else (bif Nat.beq i 18 then (10, 124, 1, 0) else (99, 0, 0, 0))))) else (bif Nat.blt i 29 then (bif Nat.blt i 23 then (bif Nat.beq i 19 then (0, 7, 1, 0) else (99, 0, 0, 0)) else (bif Nat.blt i 25 then (bif Nat.beq i 23 then (4, 0, 0, 4294967295) else (99, 0, 0, 0)) else (bif Nat.beq i 25 then (1, 101, 5, 0) else (99, 0, 0, 0)))) else (bif Nat.blt i 33 then (bif Nat.beq i 29 then (0, 7, 2, 0) else (99, 0, 0, 0)) else (bif Nat.blt i 36 then (bif Nat.beq i 33 then (0, 7, 3, 0) else (99, 0, 0, 0)) else (bif Nat.beq i 36 then (0, 7, 4, 0) else (99, 0, 0, 0)))))) else (bif Nat.blt i 62 then (bif Nat.blt i 53 then (bif Nat.blt i 43 then (bif Nat.beq i 39 then (0, 7, 5, 0) else (99, 0, 0, 0)) else (bif Nat.blt i 49 then (bif Nat.beq i 43 then (1, 264, 2, 0) else (99, 0, 0, 0)) else (bif Nat.beq i 49 then (0, 7, 6, 0) else (99, 0, 0, 0)))) else (bif Nat.blt i 56 then (bif Nat.beq i 53 then (0, 7, 7, 0) else (99, 0, 0, 0)) else (bif Nat.blt i 60 then (bif Nat.beq i 56 then (1, 100, 3, 0) else (99, 0, 0, 0)) else (bif Nat.beq i 60 then (5, 17, 0, 0) else (99, 0, 0, 0))))) else (bif Nat.blt i 74 then (bif Nat.blt i 68 then (bif Nat.beq i 62 then (1, 71, 2, 0) else (99, 0, 0, 0)) else (bif Nat.blt i 72 then (bif Nat.beq i 68 then (1, 70, 2, 0) else (99, 0, 0, 0)) else (bif Nat.beq i 72 then (5, 18, 0, 0) else (99, 0, 0, 0)))) else (bif Nat.blt i 76 then (bif Nat.beq i 74 then (5, 19, 0, 0) else (99, 0, 0, 0)) else (bif Nat.blt i 80 then (bif Nat.beq i 76 then (1, 125, 6, 0) else (99, 0, 0, 0)) else (bif Nat.beq i 80 then (1, 75, 3, 0) else (99, 0, 0, 0))))))) else (bif Nat.blt i 128 then (bif Nat.blt i 108 then (bif Nat.blt i 98 then (bif Nat.blt i 90 then (bif Nat.beq i 84 then (1, 54, 1, 0) else (99, 0, 0, 0)) else (bif Nat.blt i 94 then (bif Nat.beq i 90 then (1, 108, 3, 0) else (99, 0, 0, 0)) else (bif Nat.beq i 94 then (1, 77, 2, 0) else (99, 0, 0, 0)))) else (bif Nat.blt i 102 then (bif Nat.beq i 98 then (1, 113, 3, 0) else (99, 0, 0, 0)) else (bif Nat.blt i 105 then (bif Nat.beq i 102 then (1, 104, 3, 0) else (99, 0, 0, 0)) else (bif Nat.beq i 105 then (1, 76, 3, 0) else (99, 0, 0, 0))))) else (bif Nat.blt i 118 then (bif Nat.blt i 111 then (bif Nat.beq i 108 then (1, 53, 1, 0) else (99, 0, 0, 0)) else (bif Nat.blt i 114 then (bif Nat.beq i 111 then (1, 119, 2, 0) else (99, 0, 0, 0)) else (bif Nat.beq i 114 then (1, 106, 4, 0) else (99, 0, 0, 0)))) else (bif Nat.blt i 121 then (bif Nat.beq i 118 then (1, 117, 1, 0) else (99, 0, 0, 0)) else (bif Nat.blt i 124 then (bif Nat.beq i 121 then (1, 105, 4, 0) else (99, 0, 0, 0)) else (bif Nat.beq i 124 then (1, 118, 2, 0) else (99, 0, 0, 0)))))) else (bif Nat.blt i 148 then (bif Nat.blt i 140 then (bif Nat.blt i 132 then (bif Nat.beq i 128 then (1, 51, 2, 0) else (99, 0, 0, 0)) else (bif Nat.blt i 136 then (bif Nat.beq i 132 then (1, 107, 5, 0) else (99, 0, 0, 0)) else (bif Nat.beq i 136 then (1, 78, 4, 0) else (99, 0, 0, 0)))) else (bif Nat.blt i 142 then (bif Nat.beq i 140 then (5, 50, 0, 0) else (99, 0, 0, 0)) else (bif Nat.blt i 145 then (bif Nat.beq i 142 then (1, 109, 1, 0) else (99, 0, 0, 0)) else (bif Nat.beq i 145 then (1, 110, 2, 0) else (99, 0, 0, 0))))) else (bif Nat.blt i 157 then (bif Nat.blt i 151 then (bif Nat.beq i 148 then (1, 73, 2, 0) else (99, 0, 0, 0)) else (bif Nat.blt i 154 then (bif Nat.beq i 151 then (1, 111, 1, 0) else (99, 0, 0, 0)) else (bif Nat.beq i 154 then (1, 265, 2, 0) else (99, 0, 0, 0)))) else (bif Nat.blt i 164 then (bif Nat.blt i 160 then (bif Nat.beq i 157 then (1, 74, 2, 0) else (99, 0, 0, 0)) else (bif Nat.beq i 160 then (1, 79, 2, 0) else (99, 0, 0, 0))) else (bif Nat.blt i 166 then (bif Nat.beq i 164 then (4, 0, 0, 2) else (99, 0, 0, 0)) else (bif Nat.beq i 166 then (4, 0, 0, 15) else (99, 0, 0, 0))))))))
def mlk8 (i : Nat) : mK := (bif Nat.blt i 39 then (bif Nat.blt i 19 then (bif Nat.blt i 13 then (bif Nat.blt i 9 then (bif Nat.beq i 1 then (9, 0, 0, 0) else (99, 0, 0, 0)) else (bif Nat.beq i 9 then (0, 8, 0, 0) else (99, 0, 0, 0))) else (bif Nat.blt i 17 then (bif Nat.beq i 13 then (0, 8, 2, 0) else (99, 0, 0, 0)) else (bif Nat.beq i 17 then (4, 0, 0, 2) else (99, 0, 0, 0)))) else (bif Nat.blt i 25 then (bif Nat.blt i 23 then (bif Nat.beq i 19 then (0, 8, 1, 0) else (99, 0, 0, 0)) else (bif Nat.beq i 23 then (4, 0, 0, 1000000000) else (99, 0, 0, 0))) else (bif Nat.blt i 31 then (bif Nat.beq i 25 then (1, 263, 1, 0) else (99, 0, 0, 0)) else (bif Nat.blt i 35 then (bif Nat.beq i 31 then (1, 265, 2, 0) else (99, 0, 0, 0)) else (bif Nat.beq i 35 then (1, 114, 2, 0) else (99, 0, 0, 0)))))) else (bif Nat.blt i 55 then (bif Nat.blt i 47 then (bif Nat.blt i 43 then (bif Nat.beq i 39 then (1, 115, 2, 0) else (99, 0, 0, 0)) else (bif Nat.beq i 43 then (1, 116, 2, 0) else (99, 0, 0, 0))) else (bif Nat.blt i 50 then (bif Nat.beq i 47 then (0, 8, 3, 0) else (99, 0, 0, 0)) else (bif Nat.blt i 53 then (bif Nat.beq i 50 then (6, 0, 0, 0) else (99, 0, 0, 0)) else (bif Nat.beq i 53 then (4, 0, 0, 10) else (99, 0, 0, 0))))) else (bif Nat.blt i 61 then (bif Nat.blt i 58 then (bif Nat.beq i 55 then (0, 8, 4, 0) else (99, 0, 0, 0)) else (bif Nat.beq i 58 then (1, 264, 2, 0) else (99, 0, 0, 0))) else (bif Nat.blt i 64 then (bif Nat.beq i 61 then (1, 120, 1, 0) else (99, 0, 0, 0)) else (bif Nat.blt i 67 then (bif Nat.beq i 64 then (1, 123, 2, 0) else (99, 0, 0, 0)) else (bif Nat.beq i 67 then (1, 118, 2, 0) else (99, 0, 0, 0)))))))
def mlk9 (i : Nat) : mK := (bif Nat.blt i 57 then (bif Nat.blt i 30 then (bif Nat.blt i 15 then (bif Nat.blt i 7 then (bif Nat.beq i 1 then (9, 0, 0, 0) else (99, 0, 0, 0)) else (bif Nat.blt i 9 then (bif Nat.beq i 7 then (4, 0, 0, 2) else (99, 0, 0, 0)) else (bif Nat.beq i 9 then (0, 9, 6, 0) else (99, 0, 0, 0)))) else (bif Nat.blt i 23 then (bif Nat.blt i 17 then (bif Nat.beq i 15 then (4, 0, 0, 4) else (99, 0, 0, 0)) else (bif Nat.beq i 17 then (1, 113, 3, 0) else (99, 0, 0, 0))) else (bif Nat.blt i 27 then (bif Nat.beq i 23 then (1, 117, 1, 0) else (99, 0, 0, 0)) else (bif Nat.beq i 27 then (0, 9, 7, 0) else (99, 0, 0, 0))))) else (bif Nat.blt i 45 then (bif Nat.blt i 38 then (bif Nat.blt i 34 then (bif Nat.beq i 30 then (1, 121, 2, 0) else (99, 0, 0, 0)) else (bif Nat.beq i 34 then (0, 9, 0, 0) else (99, 0, 0, 0))) else (bif Nat.blt i 42 then (bif Nat.beq i 38 then (1, 122, 2, 0) else (99, 0, 0, 0)) else (bif Nat.beq i 42 then (0, 9, 1, 0) else (99, 0, 0, 0)))) else (bif Nat.blt i 51 then (bif Nat.blt i 48 then (bif Nat.beq i 45 then (0, 9, 2, 0) else (99, 0, 0, 0)) else (bif Nat.beq i 48 then (0, 9, 3, 0) else (99, 0, 0, 0))) else (bif Nat.blt i 54 then (bif Nat.beq i 51 then (0, 9, 4, 0) else (99, 0, 0, 0)) else (bif Nat.beq i 54 then (0, 9, 5, 0) else (99, 0, 0, 0)))))) else (bif Nat.blt i 81 then (bif Nat.blt i 67 then (bif Nat.blt i 61 then (bif Nat.beq i 57 then (1, 126, 1, 0) else (99, 0, 0, 0)) else (bif Nat.blt i 65 then (bif Nat.beq i 61 then (6, 0, 0, 0) else (99, 0, 0, 0)) else (bif Nat.beq i 65 then (4, 0, 0, 10) else (99, 0, 0, 0)))) else (bif Nat.blt i 73 then (bif Nat.blt i 71 then (bif Nat.beq i 67 then (1, 130, 3, 0) else (99, 0, 0, 0)) else (bif Nat.beq i 71 then (5, 20, 0, 0) else (99, 0, 0, 0))) else (bif Nat.blt i 75 then (bif Nat.beq i 73 then (5, 21, 0, 0) else (99, 0, 0, 0)) else (bif Nat.beq i 75 then (1, 71, 2, 0) else (99, 0, 0, 0))))) else (bif Nat.blt i 96 then (bif Nat.blt i 89 then (bif Nat.blt i 85 then (bif Nat.beq i 81 then (1, 78, 4, 0) else (99, 0, 0, 0)) else (bif Nat.beq i 85 then (1, 127, 2, 0) else (99, 0, 0, 0))) else (bif Nat.blt i 92 then (bif Nat.beq i 89 then (1, 128, 2, 0) else (99, 0, 0, 0)) else (bif Nat.beq i 92 then (1, 129, 4, 0) else (99, 0, 0, 0)))) else (bif Nat.blt i 104 then (bif Nat.blt i 100 then (bif Nat.beq i 96 then (1, 70, 2, 0) else (99, 0, 0, 0)) else (bif Nat.beq i 100 then (1, 132, 2, 0) else (99, 0, 0, 0))) else (bif Nat.blt i 108 then (bif Nat.beq i 104 then (1, 131, 1, 0) else (99, 0, 0, 0)) else (bif Nat.beq i 108 then (1, 264, 2, 0) else (99, 0, 0, 0)))))))
def mlk10 (i : Nat) : mK := (bif Nat.blt i 78 then (bif Nat.blt i 40 then (bif Nat.blt i 20 then (bif Nat.blt i 9 then (bif Nat.blt i 7 then (bif Nat.beq i 1 then (9, 0, 0, 0) else (99, 0, 0, 0)) else (bif Nat.beq i 7 then (2, 11, 0, 0) else (99, 0, 0, 0))) else (bif Nat.blt i 10 then (bif Nat.beq i 9 then (10, 148, 1, 0) else (99, 0, 0, 0)) else (bif Nat.blt i 16 then (bif Nat.beq i 10 then (0, 10, 1, 0) else (99, 0, 0, 0)) else (bif Nat.beq i 16 then (0, 10, 0, 0) else (99, 0, 0, 0))))) else (bif Nat.blt i 31 then (bif Nat.blt i 24 then (bif Nat.beq i 20 then (0, 10, 10, 0) else (99, 0, 0, 0)) else (bif Nat.blt i 28 then (bif Nat.beq i 24 then (0, 10, 2, 0) else (99, 0, 0, 0)) else (bif Nat.beq i 28 then (1, 136, 1, 0) else (99, 0, 0, 0)))) else (bif Nat.blt i 35 then (bif Nat.beq i 31 then (1, 138, 1, 0) else (99, 0, 0, 0)) else (bif Nat.blt i 38 then (bif Nat.beq i 35 then (0, 10, 5, 0) else (99, 0, 0, 0)) else (bif Nat.beq i 38 then (5, 53, 0, 0) else (99, 0, 0, 0)))))) else (bif Nat.blt i 54 then (bif Nat.blt i 46 then (bif Nat.blt i 44 then (bif Nat.beq i 40 then (1, 139, 2, 0) else (99, 0, 0, 0)) else (bif Nat.beq i 44 then (4, 0, 0, 2143289344) else (99, 0, 0, 0))) else (bif Nat.blt i 48 then (bif Nat.beq i 46 then (4, 0, 0, 9221120237041090560) else (99, 0, 0, 0)) else (bif Nat.blt i 50 then (bif Nat.beq i 48 then (5, 54, 0, 0) else (99, 0, 0, 0)) else (bif Nat.beq i 50 then (1, 149, 1, 0) else (99, 0, 0, 0))))) else (bif Nat.blt i 66 then (bif Nat.blt i 58 then (bif Nat.beq i 54 then (1, 147, 2, 0) else (99, 0, 0, 0)) else (bif Nat.blt i 62 then (bif Nat.beq i 58 then (1, 137, 1, 0) else (99, 0, 0, 0)) else (bif Nat.beq i 62 then (0, 10, 3, 0) else (99, 0, 0, 0)))) else (bif Nat.blt i 69 then (bif Nat.beq i 66 then (0, 10, 4, 0) else (99, 0, 0, 0)) else (bif Nat.blt i 74 then (bif Nat.beq i 69 then (1, 17, 2, 0) else (99, 0, 0, 0)) else (bif Nat.beq i 74 then (1, 140, 2, 0) else (99, 0, 0, 0))))))) else (bif Nat.blt i 114 then (bif Nat.blt i 95 then (bif Nat.blt i 85 then (bif Nat.blt i 82 then (bif Nat.beq i 78 then (1, 143, 2, 0) else (99, 0, 0, 0)) else (bif Nat.beq i 82 then (0, 10, 6, 0) else (99, 0, 0, 0))) else (bif Nat.blt i 88 then (bif Nat.beq i 85 then (1, 144, 1, 0) else (99, 0, 0, 0)) else (bif Nat.blt i 92 then (bif Nat.beq i 88 then (1, 145, 1, 0) else (99, 0, 0, 0)) else (bif Nat.beq i 92 then (1, 146, 1, 0) else (99, 0, 0, 0))))) else (bif Nat.blt i 105 then (bif Nat.blt i 98 then (bif Nat.beq i 95 then (1, 16, 1, 0) else (99, 0, 0, 0)) else (bif Nat.blt i 101 then (bif Nat.beq i 98 then (1, 241, 1, 0) else (99, 0, 0, 0)) else (bif Nat.beq i 101 then (1, 242, 2, 0) else (99, 0, 0, 0)))) else (bif Nat.blt i 108 then (bif Nat.beq i 105 then (1, 150, 1, 0) else (99, 0, 0, 0)) else (bif Nat.blt i 111 then (bif Nat.beq i 108 then (0, 10, 7, 0) else (99, 0, 0, 0)) else (bif Nat.beq i 111 then (0, 10, 8, 0) else (99, 0, 0, 0)))))) else (bif Nat.blt i 131 then (bif Nat.blt i 123 then (bif Nat.blt i 118 then (bif Nat.beq i 114 then (1, 142, 2, 0) else (99, 0, 0, 0)) else (bif Nat.blt i 122 then (bif Nat.beq i 118 then (1, 141, 3, 0) else (99, 0, 0, 0)) else (bif Nat.beq i 122 then (3, 0, 0, 100000000) else (99, 0, 0, 0)))) else (bif Nat.blt i 127 then (bif Nat.beq i 123 then (1, 151, 3, 0) else (99, 0, 0, 0)) else (bif Nat.blt i 130 then (bif Nat.beq i 127 then (0, 10, 9, 0) else (99, 0, 0, 0)) else (bif Nat.beq i 130 then (3, 0, 0, 100000) else (99, 0, 0, 0))))) else (bif Nat.blt i 143 then (bif Nat.blt i 136 then (bif Nat.beq i 131 then (1, 265, 2, 0) else (99, 0, 0, 0)) else (bif Nat.blt i 140 then (bif Nat.beq i 136 then (1, 159, 3, 0) else (99, 0, 0, 0)) else (bif Nat.beq i 140 then (1, 153, 2, 0) else (99, 0, 0, 0)))) else (bif Nat.blt i 146 then (bif Nat.beq i 143 then (1, 152, 2, 0) else (99, 0, 0, 0)) else (bif Nat.blt i 148 then (bif Nat.beq i 146 then (4, 0, 0, 2147483648) else (99, 0, 0, 0)) else (bif Nat.beq i 148 then (4, 0, 0, (-9223372036854775808)) else (99, 0, 0, 0))))))))
def mlk11 (i : Nat) : mK := (bif Nat.blt i 42 then (bif Nat.blt i 21 then (bif Nat.blt i 13 then (bif Nat.blt i 9 then (bif Nat.beq i 1 then (9, 0, 0, 0) else (99, 0, 0, 0)) else (bif Nat.beq i 9 then (0, 11, 0, 0) else (99, 0, 0, 0))) else (bif Nat.blt i 15 then (bif Nat.beq i 13 then (4, 0, 0, 2139095040) else (99, 0, 0, 0)) else (bif Nat.blt i 17 then (bif Nat.beq i 15 then (4, 0, 0, 9218868437227405312) else (99, 0, 0, 0)) else (bif Nat.beq i 17 then (0, 11, 1, 0) else (99, 0, 0, 0))))) else (bif Nat.blt i 28 then (bif Nat.blt i 24 then (bif Nat.beq i 21 then (0, 11, 2, 0) else (99, 0, 0, 0)) else (bif Nat.beq i 24 then (0, 11, 3, 0) else (99, 0, 0, 0))) else (bif Nat.blt i 30 then (bif Nat.beq i 28 then (4, 0, 0, 4294967295) else (99, 0, 0, 0)) else (bif Nat.blt i 36 then (bif Nat.beq i 30 then (1, 265, 2, 0) else (99, 0, 0, 0)) else (bif Nat.beq i 36 then (1, 114, 2, 0) else (99, 0, 0, 0)))))) else (bif Nat.blt i 62 then (bif Nat.blt i 50 then (bif Nat.blt i 46 then (bif Nat.beq i 42 then (1, 151, 3, 0) else (99, 0, 0, 0)) else (bif Nat.beq i 46 then (1, 156, 1, 0) else (99, 0, 0, 0))) else (bif Nat.blt i 54 then (bif Nat.beq i 50 then (1, 154, 2, 0) else (99, 0, 0, 0)) else (bif Nat.blt i 58 then (bif Nat.beq i 54 then (1, 155, 2, 0) else (99, 0, 0, 0)) else (bif Nat.beq i 58 then (1, 157, 2, 0) else (99, 0, 0, 0))))) else (bif Nat.blt i 71 then (bif Nat.blt i 67 then (bif Nat.beq i 62 then (1, 264, 2, 0) else (99, 0, 0, 0)) else (bif Nat.beq i 67 then (1, 149, 1, 0) else (99, 0, 0, 0))) else (bif Nat.blt i 74 then (bif Nat.beq i 71 then (1, 160, 3, 0) else (99, 0, 0, 0)) else (bif Nat.blt i 77 then (bif Nat.beq i 74 then (1, 158, 2, 0) else (99, 0, 0, 0)) else (bif Nat.beq i 77 then (4, 0, 0, 2) else (99, 0, 0, 0)))))))
def mlk12 (i : Nat) : mK := (bif Nat.blt i 262 then (bif Nat.blt i 139 then (bif Nat.blt i 73 then (bif Nat.blt i 40 then (bif Nat.blt i 22 then (bif Nat.blt i 13 then (bif Nat.blt i 9 then (bif Nat.beq i 1 then (9, 0, 0, 0) else (99, 0, 0, 0)) else (bif Nat.beq i 9 then (0, 12, 0, 0) else (99, 0, 0, 0))) else (bif Nat.blt i 16 then (bif Nat.beq i 13 then (0, 12, 1, 0) else (99, 0, 0, 0)) else (bif Nat.blt i 19 then (bif Nat.beq i 16 then (0, 12, 2, 0) else (99, 0, 0, 0)) else (bif Nat.beq i 19 then (0, 12, 3, 0) else (99, 0, 0, 0))))) else (bif Nat.blt i 29 then (bif Nat.blt i 26 then (bif Nat.beq i 22 then (0, 12, 5, 0) else (99, 0, 0, 0)) else (bif Nat.beq i 26 then (0, 12, 8, 0) else (99, 0, 0, 0))) else (bif Nat.blt i 33 then (bif Nat.beq i 29 then (0, 12, 10, 0) else (99, 0, 0, 0)) else (bif Nat.blt i 36 then (bif Nat.beq i 33 then (0, 12, 11, 0) else (99, 0, 0, 0)) else (bif Nat.beq i 36 then (0, 12, 12, 0) else (99, 0, 0, 0)))))) else (bif Nat.blt i 53 then (bif Nat.blt i 43 then (bif Nat.blt i 42 then (bif Nat.beq i 40 then (2, 13, 0, 0) else (99, 0, 0, 0)) else (bif Nat.beq i 42 then (10, 229, 1, 0) else (99, 0, 0, 0))) else (bif Nat.blt i 47 then (bif Nat.beq i 43 then (0, 12, 23, 0) else (99, 0, 0, 0)) else (bif Nat.blt i 50 then (bif Nat.beq i 47 then (0, 12, 24, 0) else (99, 0, 0, 0)) else (bif Nat.beq i 50 then (0, 12, 25, 0) else (99, 0, 0, 0))))) else (bif Nat.blt i 62 then (bif Nat.blt i 56 then (bif Nat.beq i 53 then (0, 12, 26, 0) else (99, 0, 0, 0)) else (bif Nat.blt i 59 then (bif Nat.beq i 56 then (0, 12, 29, 0) else (99, 0, 0, 0)) else (bif Nat.beq i 59 then (0, 12, 32, 0) else (99, 0, 0, 0)))) else (bif Nat.blt i 65 then (bif Nat.beq i 62 then (0, 12, 9, 0) else (99, 0, 0, 0)) else (bif Nat.blt i 69 then (bif Nat.beq i 65 then (1, 236, 1, 0) else (99, 0, 0, 0)) else (bif Nat.beq i 69 then (1, 237, 1, 0) else (99, 0, 0, 0))))))) else (bif Nat.blt i 103 then (bif Nat.blt i 92 then (bif Nat.blt i 82 then (bif Nat.blt i 79 then (bif Nat.beq i 73 then (1, 264, 2, 0) else (99, 0, 0, 0)) else (bif Nat.beq i 79 then (0, 12, 27, 0) else (99, 0, 0, 0))) else (bif Nat.blt i 85 then (bif Nat.beq i 82 then (0, 12, 28, 0) else (99, 0, 0, 0)) else (bif Nat.blt i 89 then (bif Nat.beq i 85 then (1, 235, 2, 0) else (99, 0, 0, 0)) else (bif Nat.beq i 89 then (1, 164, 1, 0) else (99, 0, 0, 0))))) else (bif Nat.blt i 98 then (bif Nat.blt i 94 then (bif Nat.beq i 92 then (4, 0, 0, 4503599627370495) else (99, 0, 0, 0)) else (bif Nat.blt i 96 then (bif Nat.beq i 94 then (4, 0, 0, 2047) else (99, 0, 0, 0)) else (bif Nat.beq i 96 then (4, 0, 0, 4503599627370496) else (99, 0, 0, 0)))) else (bif Nat.blt i 100 then (bif Nat.beq i 98 then (4, 0, 0, 9223372036854775807) else (99, 0, 0, 0)) else (bif Nat.blt i 102 then (bif Nat.beq i 100 then (4, 0, 0, 9218868437227405312) else (99, 0, 0, 0)) else (bif Nat.beq i 102 then (3, 0, 0, 8388607) else (99, 0, 0, 0)))))) else (bif Nat.blt i 119 then (bif Nat.blt i 109 then (bif Nat.blt i 107 then (bif Nat.beq i 103 then (1, 234, 3, 0) else (99, 0, 0, 0)) else (bif Nat.beq i 107 then (4, 0, 0, 2) else (99, 0, 0, 0))) else (bif Nat.blt i 111 then (bif Nat.beq i 109 then (4, 0, 0, 4) else (99, 0, 0, 0)) else (bif Nat.blt i 115 then (bif Nat.beq i 111 then (1, 172, 2, 0) else (99, 0, 0, 0)) else (bif Nat.beq i 115 then (1, 239, 2, 0) else (99, 0, 0, 0))))) else (bif Nat.blt i 130 then (bif Nat.blt i 123 then (bif Nat.beq i 119 then (1, 173, 2, 0) else (99, 0, 0, 0)) else (bif Nat.blt i 127 then (bif Nat.beq i 123 then (1, 174, 2, 0) else (99, 0, 0, 0)) else (bif Nat.beq i 127 then (1, 238, 1, 0) else (99, 0, 0, 0)))) else (bif Nat.blt i 133 then (bif Nat.beq i 130 then (1, 265, 2, 0) else (99, 0, 0, 0)) else (bif Nat.blt i 136 then (bif Nat.beq i 133 then (1, 165, 2, 0) else (99, 0, 0, 0)) else (bif Nat.beq i 136 then (0, 12, 30, 0) else (99, 0, 0, 0)))))))) else (bif Nat.blt i 200 then (bif Nat.blt i 168 then (bif Nat.blt i 156 then (bif Nat.blt i 147 then (bif Nat.blt i 142 then (bif Nat.beq i 139 then (0, 12, 31, 0) else (99, 0, 0, 0)) else (bif Nat.beq i 142 then (1, 241, 1, 0) else (99, 0, 0, 0))) else (bif Nat.blt i 151 then (bif Nat.beq i 147 then (1, 242, 2, 0) else (99, 0, 0, 0)) else (bif Nat.blt i 154 then (bif Nat.beq i 151 then (1, 175, 2, 0) else (99, 0, 0, 0)) else (bif Nat.beq i 154 then (4, 0, 0, 9) else (99, 0, 0, 0))))) else (bif Nat.blt i 160 then (bif Nat.blt i 158 then (bif Nat.beq i 156 then (4, 0, 0, 10) else (99, 0, 0, 0)) else (bif Nat.beq i 158 then (4, 0, 0, 48) else (99, 0, 0, 0))) else (bif Nat.blt i 161 then (bif Nat.beq i 160 then (3, 0, 0, 65536) else (99, 0, 0, 0)) else (bif Nat.blt i 164 then (bif Nat.beq i 161 then (1, 170, 1, 0) else (99, 0, 0, 0)) else (bif Nat.beq i 164 then (1, 168, 1, 0) else (99, 0, 0, 0)))))) else (bif Nat.blt i 181 then (bif Nat.blt i 174 then (bif Nat.blt i 170 then (bif Nat.beq i 168 then (5, 63, 0, 0) else (99, 0, 0, 0)) else (bif Nat.beq i 170 then (1, 176, 2, 0) else (99, 0, 0, 0))) else (bif Nat.blt i 177 then (bif Nat.beq i 174 then (1, 169, 1, 0) else (99, 0, 0, 0)) else (bif Nat.blt i 179 then (bif Nat.beq i 177 then (5, 64, 0, 0) else (99, 0, 0, 0)) else (bif Nat.beq i 179 then (5, 65, 0, 0) else (99, 0, 0, 0))))) else (bif Nat.blt i 190 then (bif Nat.blt i 182 then (bif Nat.beq i 181 then (3, 0, 0, 8388608) else (99, 0, 0, 0)) else (bif Nat.blt i 186 then (bif Nat.beq i 182 then (1, 171, 4, 0) else (99, 0, 0, 0)) else (bif Nat.beq i 186 then (1, 166, 1, 0) else (99, 0, 0, 0)))) else (bif Nat.blt i 194 then (bif Nat.beq i 190 then (1, 167, 1, 0) else (99, 0, 0, 0)) else (bif Nat.blt i 197 then (bif Nat.beq i 194 then (1, 177, 3, 0) else (99, 0, 0, 0)) else (bif Nat.beq i 197 then (0, 12, 33, 0) else (99, 0, 0, 0))))))) else (bif Nat.blt i 233 then (bif Nat.blt i 215 then (bif Nat.blt i 207 then (bif Nat.blt i 203 then (bif Nat.beq i 200 then (0, 12, 15, 0) else (99, 0, 0, 0)) else (bif Nat.beq i 203 then (1, 180, 2, 0) else (99, 0, 0, 0))) else (bif Nat.blt i 209 then (bif Nat.beq i 207 then (5, 66, 0, 0) else (99, 0, 0, 0)) else (bif Nat.blt i 212 then (bif Nat.beq i 209 then (0, 12, 16, 0) else (99, 0, 0, 0)) else (bif Nat.beq i 212 then (0, 12, 35, 0) else (99, 0, 0, 0))))) else (bif Nat.blt i 223 then (bif Nat.blt i 217 then (bif Nat.beq i 215 then (4, 0, 0, (-9)) else (99, 0, 0, 0)) else (bif Nat.blt i 219 then (bif Nat.beq i 217 then (1, 181, 2, 0) else (99, 0, 0, 0)) else (bif Nat.beq i 219 then (1, 182, 4, 0) else (99, 0, 0, 0)))) else (bif Nat.blt i 226 then (bif Nat.beq i 223 then (0, 12, 18, 0) else (99, 0, 0, 0)) else (bif Nat.blt i 230 then (bif Nat.beq i 226 then (1, 188, 2, 0) else (99, 0, 0, 0)) else (bif Nat.beq i 230 then (0, 12, 17, 0) else (99, 0, 0, 0)))))) else (bif Nat.blt i 247 then (bif Nat.blt i 239 then (bif Nat.blt i 236 then (bif Nat.beq i 233 then (1, 185, 2, 0) else (99, 0, 0, 0)) else (bif Nat.beq i 236 then (1, 186, 2, 0) else (99, 0, 0, 0))) else (bif Nat.blt i 242 then (bif Nat.beq i 239 then (1, 187, 2, 0) else (99, 0, 0, 0)) else (bif Nat.blt i 245 then (bif Nat.beq i 242 then (1, 163, 2, 0) else (99, 0, 0, 0)) else (bif Nat.beq i 245 then (4, 0, 0, 15) else (99, 0, 0, 0))))) else (bif Nat.blt i 254 then (bif Nat.blt i 249 then (bif Nat.beq i 247 then (4, 0, 0, 100) else (99, 0, 0, 0)) else (bif Nat.blt i 251 then (bif Nat.beq i 249 then (4, 0, 0, 400) else (99, 0, 0, 0)) else (bif Nat.beq i 251 then (1, 190, 1, 0) else (99, 0, 0, 0)))) else (bif Nat.blt i 256 then (bif Nat.beq i 254 then (4, 0, 0, 1000) else (99, 0, 0, 0)) else (bif Nat.blt i 260 then (bif Nat.beq i 256 then (1, 261, 2, 0) else (99, 0, 0, 0)) else (bif Nat.beq i 260 then (4, 0, 0, 86400) else (99, 0, 0, 0))))))))) else (bif Nat.blt i 373 then (bif Nat.blt i 313 then (bif Nat.blt i 287 then (bif Nat.blt i 275 then (bif Nat.blt i 267 then (bif Nat.blt i 265 then (bif Nat.beq i 262 then (1, 262, 2, 0) else (99, 0, 0, 0)) else (bif Nat.beq i 265 then (4, 0, 0, 146097) else (99, 0, 0, 0))) else (bif Nat.blt i 269 then (bif Nat.beq i 267 then (4, 0, 0, 1970) else (99, 0, 0, 0)) else (bif Nat.blt i 273 then (bif Nat.beq i 269 then (1, 191, 2, 0) else (99, 0, 0, 0)) else (bif Nat.beq i 273 then (5, 67, 0, 0) else (99, 0, 0, 0))))) else (bif Nat.blt i 281 then (bif Nat.blt i 279 then (bif Nat.beq i 275 then (1, 189, 4, 0) else (99, 0, 0, 0)) else (bif Nat.beq i 279 then (5, 68, 0, 0) else (99, 0, 0, 0))) else (bif Nat.blt i 283 then (bif Nat.beq i 281 then (4, 0, 0, 7) else (99, 0, 0, 0)) else (bif Nat.blt i 285 then (bif Nat.beq i 283 then (5, 69, 0, 0) else (99, 0, 0, 0)) else (bif Nat.beq i 285 then (5, 70, 0, 0) else (99, 0, 0, 0)))))) else (bif Nat.blt i 299 then (bif Nat.blt i 292 then (bif Nat.blt i 290 then (bif Nat.beq i 287 then (1, 194, 2, 0) else (99, 0, 0, 0)) else (bif Nat.beq i 290 then (5, 71, 0, 0) else (99, 0, 0, 0))) else (bif Nat.blt i 295 then (bif Nat.beq i 292 then (1, 193, 2, 0) else (99, 0, 0, 0)) else (bif Nat.blt i 297 then (bif Nat.beq i 295 then (5, 72, 0, 0) else (99, 0, 0, 0)) else (bif Nat.beq i 297 then (5, 73, 0, 0) else (99, 0, 0, 0))))) else (bif Nat.blt i 305 then (bif Nat.blt i 301 then (bif Nat.beq i 299 then (5, 74, 0, 0) else (99, 0, 0, 0)) else (bif Nat.blt i 303 then (bif Nat.beq i 301 then (5, 75, 0, 0) else (99, 0, 0, 0)) else (bif Nat.beq i 303 then (5, 76, 0, 0) else (99, 0, 0, 0)))) else (bif Nat.blt i 307 then (bif Nat.beq i 305 then (5, 77, 0, 0) else (99, 0, 0, 0)) else (bif Nat.blt i 310 then (bif Nat.beq i 307 then (1, 192, 2, 0) else (99, 0, 0, 0)) else (bif Nat.beq i 310 then (0, 12, 34, 0) else (99, 0, 0, 0))))))) else (bif Nat.blt i 344 then (bif Nat.blt i 328 then (bif Nat.blt i 319 then (bif Nat.blt i 316 then (bif Nat.beq i 313 then (1, 195, 2, 0) else (99, 0, 0, 0)) else (bif Nat.beq i 316 then (1, 196, 1, 0) else (99, 0, 0, 0))) else (bif Nat.blt i 322 then (bif Nat.beq i 319 then (1, 197, 2, 0) else (99, 0, 0, 0)) else (bif Nat.blt i 325 then (bif Nat.beq i 322 then (0, 12, 14, 0) else (99, 0, 0, 0)) else (bif Nat.beq i 325 then (1, 198, 3, 0) else (99, 0, 0, 0))))) else (bif Nat.blt i 335 then (bif Nat.blt i 330 then (bif Nat.beq i 328 then (5, 56, 0, 0) else (99, 0, 0, 0)) else (bif Nat.blt i 333 then (bif Nat.beq i 330 then (1, 243, 2, 0) else (99, 0, 0, 0)) else (bif Nat.beq i 333 then (5, 57, 0, 0) else (99, 0, 0, 0)))) else (bif Nat.blt i 339 then (bif Nat.beq i 335 then (0, 12, 22, 0) else (99, 0, 0, 0)) else (bif Nat.blt i 342 then (bif Nat.beq i 339 then (0, 12, 19, 0) else (99, 0, 0, 0)) else (bif Nat.beq i 342 then (5, 58, 0, 0) else (99, 0, 0, 0)))))) else (bif Nat.blt i 358 then (bif Nat.blt i 350 then (bif Nat.blt i 347 then (bif Nat.beq i 344 then (0, 12, 20, 0) else (99, 0, 0, 0)) else (bif Nat.beq i 347 then (1, 200, 1, 0) else (99, 0, 0, 0))) else (bif Nat.blt i 352 then (bif Nat.beq i 350 then (5, 59, 0, 0) else (99, 0, 0, 0)) else (bif Nat.blt i 355 then (bif Nat.beq i 352 then (0, 12, 37, 0) else (99, 0, 0, 0)) else (bif Nat.beq i 355 then (0, 12, 36, 0) else (99, 0, 0, 0))))) else (bif Nat.blt i 365 then (bif Nat.blt i 361 then (bif Nat.beq i 358 then (0, 12, 13, 0) else (99, 0, 0, 0)) else (bif Nat.blt i 363 then (bif Nat.beq i 361 then (4, 0, 0, 1114111) else (99, 0, 0, 0)) else (bif Nat.beq i 363 then (5, 60, 0, 0) else (99, 0, 0, 0)))) else (bif Nat.blt i 367 then (bif Nat.beq i 365 then (5, 61, 0, 0) else (99, 0, 0, 0)) else (bif Nat.blt i 369 then (bif Nat.beq i 367 then (5, 62, 0, 0) else (99, 0, 0, 0)) else (bif Nat.beq i 369 then (1, 203, 3, 0) else (99, 0, 0, 0)))))))) else (bif Nat.blt i 435 then (bif Nat.blt i 407 then (bif Nat.blt i 389 then (bif Nat.blt i 379 then (bif Nat.blt i 376 then (bif Nat.beq i 373 then (1, 178, 2, 0) else (99, 0, 0, 0)) else (bif Nat.beq i 376 then (1, 183, 2, 0) else (99, 0, 0, 0))) else (bif Nat.blt i 382 then (bif Nat.beq i 379 then (1, 184, 1, 0) else (99, 0, 0, 0)) else (bif Nat.blt i 386 then (bif Nat.beq i 382 then (1, 179, 3, 0) else (99, 0, 0, 0)) else (bif Nat.beq i 386 then (0, 12, 6, 0) else (99, 0, 0, 0))))) else (bif Nat.blt i 398 then (bif Nat.blt i 392 then (bif Nat.beq i 389 then (1, 201, 1, 0) else (99, 0, 0, 0)) else (bif Nat.blt i 395 then (bif Nat.beq i 392 then (1, 202, 1, 0) else (99, 0, 0, 0)) else (bif Nat.beq i 395 then (0, 12, 39, 0) else (99, 0, 0, 0)))) else (bif Nat.blt i 401 then (bif Nat.beq i 398 then (0, 12, 38, 0) else (99, 0, 0, 0)) else (bif Nat.blt i 404 then (bif Nat.beq i 401 then (0, 12, 4, 0) else (99, 0, 0, 0)) else (bif Nat.beq i 404 then (1, 205, 2, 0) else (99, 0, 0, 0)))))) else (bif Nat.blt i 420 then (bif Nat.blt i 411 then (bif Nat.blt i 409 then (bif Nat.beq i 407 then (4, 0, 0, 2139095040) else (99, 0, 0, 0)) else (bif Nat.beq i 409 then (4, 0, 0, 2147483648) else (99, 0, 0, 0))) else (bif Nat.blt i 413 then (bif Nat.beq i 411 then (4, 0, 0, (-9223372036854775808)) else (99, 0, 0, 0)) else (bif Nat.blt i 416 then (bif Nat.beq i 413 then (0, 12, 40, 0) else (99, 0, 0, 0)) else (bif Nat.beq i 416 then (1, 207, 2, 0) else (99, 0, 0, 0))))) else (bif Nat.blt i 428 then (bif Nat.blt i 422 then (bif Nat.beq i 420 then (4, 0, 0, 2143289344) else (99, 0, 0, 0)) else (bif Nat.blt i 424 then (bif Nat.beq i 422 then (4, 0, 0, 9221120237041090560) else (99, 0, 0, 0)) else (bif Nat.beq i 424 then (1, 215, 2, 0) else (99, 0, 0, 0)))) else (bif Nat.blt i 431 then (bif Nat.beq i 428 then (1, 210, 2, 0) else (99, 0, 0, 0)) else (bif Nat.blt i 432 then (bif Nat.beq i 431 then (3, 0, 0, 100000) else (99, 0, 0, 0)) else (bif Nat.beq i 432 then (1, 209, 2, 0) else (99, 0, 0, 0))))))) else (bif Nat.blt i 472 then (bif Nat.blt i 451 then (bif Nat.blt i 442 then (bif Nat.blt i 438 then (bif Nat.beq i 435 then (1, 230, 1, 0) else (99, 0, 0, 0)) else (bif Nat.beq i 438 then (1, 240, 3, 0) else (99, 0, 0, 0))) else (bif Nat.blt i 445 then (bif Nat.beq i 442 then (1, 211, 2, 0) else (99, 0, 0, 0)) else (bif Nat.blt i 448 then (bif Nat.beq i 445 then (1, 213, 1, 0) else (99, 0, 0, 0)) else (bif Nat.beq i 448 then (1, 233, 1, 0) else (99, 0, 0, 0))))) else (bif Nat.blt i 461 then (bif Nat.blt i 454 then (bif Nat.beq i 451 then (1, 232, 1, 0) else (99, 0, 0, 0)) else (bif Nat.blt i 457 then (bif Nat.beq i 454 then (1, 214, 1, 0) else (99, 0, 0, 0)) else (bif Nat.beq i 457 then (1, 212, 4, 0) else (99, 0, 0, 0)))) else (bif Nat.blt i 464 then (bif Nat.beq i 461 then (0, 13, 1, 0) else (99, 0, 0, 0)) else (bif Nat.blt i 469 then (bif Nat.beq i 464 then (1, 267, 1, 0) else (99, 0, 0, 0)) else (bif Nat.beq i 469 then (0, 13, 0, 0) else (99, 0, 0, 0)))))) else (bif Nat.blt i 487 then (bif Nat.blt i 477 then (bif Nat.blt i 474 then (bif Nat.beq i 472 then (4, 0, 0, 1000000000) else (99, 0, 0, 0)) else (bif Nat.beq i 474 then (1, 206, 1, 0) else (99, 0, 0, 0))) else (bif Nat.blt i 479 then (bif Nat.beq i 477 then (4, 0, 0, 16) else (99, 0, 0, 0)) else (bif Nat.blt i 481 then (bif Nat.beq i 479 then (4, 0, 0, 128) else (99, 0, 0, 0)) else (bif Nat.beq i 481 then (11, 0, 0, 0) else (99, 0, 0, 0))))) else (bif Nat.blt i 496 then (bif Nat.blt i 490 then (bif Nat.beq i 487 then (0, 12, 7, 0) else (99, 0, 0, 0)) else (bif Nat.blt i 493 then (bif Nat.beq i 490 then (1, 199, 2, 0) else (99, 0, 0, 0)) else (bif Nat.beq i 493 then (1, 219, 4, 0) else (99, 0, 0, 0)))) else (bif Nat.blt i 499 then (bif Nat.beq i 496 then (1, 204, 1, 0) else (99, 0, 0, 0)) else (bif Nat.blt i 501 then (bif Nat.beq i 499 then (4, 0, 0, 31) else (99, 0, 0, 0)) else (bif Nat.beq i 501 then (1, 208, 2, 0) else (99, 0, 0, 0))))))))))
def mlk13 (i : Nat) : mK := (bif Nat.blt i 30 then (bif Nat.blt i 22 then (bif Nat.blt i 15 then (bif Nat.blt i 9 then (bif Nat.beq i 3 then (9, 0, 0, 0) else (99, 0, 0, 0)) else (bif Nat.beq i 9 then (0, 13, 0, 0) else (99, 0, 0, 0))) else (bif Nat.blt i 19 then (bif Nat.beq i 15 then (0, 13, 1, 0) else (99, 0, 0, 0)) else (bif Nat.beq i 19 then (0, 13, 2, 0) else (99, 0, 0, 0)))) else (bif Nat.blt i 27 then (bif Nat.blt i 25 then (bif Nat.beq i 22 then (1, 230, 1, 0) else (99, 0, 0, 0)) else (bif Nat.beq i 25 then (4, 0, 0, 1000000000) else (99, 0, 0, 0))) else (bif Nat.blt i 28 then (bif Nat.beq i 27 then (3, 0, 0, 1000000000) else (99, 0, 0, 0)) else (bif Nat.beq i 28 then (4, 0, 0, 2) else (99, 0, 0, 0))))) else (bif Nat.blt i 41 then (bif Nat.blt i 35 then (bif Nat.blt i 31 then (bif Nat.beq i 30 then (3, 0, 0, 500000000) else (99, 0, 0, 0)) else (bif Nat.beq i 31 then (1, 231, 2, 0) else (99, 0, 0, 0))) else (bif Nat.blt i 38 then (bif Nat.beq i 35 then (1, 232, 1, 0) else (99, 0, 0, 0)) else (bif Nat.beq i 38 then (1, 233, 1, 0) else (99, 0, 0, 0)))) else (bif Nat.blt i 51 then (bif Nat.blt i 45 then (bif Nat.beq i 41 then (1, 235, 2, 0) else (99, 0, 0, 0)) else (bif Nat.beq i 45 then (1, 264, 2, 0) else (99, 0, 0, 0))) else (bif Nat.blt i 55 then (bif Nat.beq i 51 then (1, 238, 1, 0) else (99, 0, 0, 0)) else (bif Nat.beq i 55 then (1, 265, 2, 0) else (99, 0, 0, 0))))))
def mlk14 (i : Nat) : mK := (bif Nat.blt i 495 then (bif Nat.blt i 38 then (bif Nat.blt i 15 then (bif Nat.beq i 9 then (0, 14, 0, 0) else (99, 0, 0, 0)) else (bif Nat.beq i 15 then (0, 14, 1, 0) else (99, 0, 0, 0))) else (bif Nat.blt i 335 then (bif Nat.beq i 38 then (6, 1, 0, 0) else (99, 0, 0, 0)) else (bif Nat.blt i 492 then (bif Nat.beq i 335 then (1, 245, 1, 0) else (99, 0, 0, 0)) else (bif Nat.beq i 492 then (1, 246, 1, 0) else (99, 0, 0, 0))))) else (bif Nat.blt i 637 then (bif Nat.blt i 505 then (bif Nat.beq i 495 then (1, 257, 2, 0) else (99, 0, 0, 0)) else (bif Nat.blt i 633 then (bif Nat.beq i 505 then (1, 241, 1, 0) else (99, 0, 0, 0)) else (bif Nat.beq i 633 then (1, 244, 3, 0) else (99, 0, 0, 0)))) else (bif Nat.blt i 1053 then (bif Nat.beq i 637 then (1, 259, 4, 0) else (99, 0, 0, 0)) else (bif Nat.blt i 1059 then (bif Nat.beq i 1053 then (6, 2, 0, 0) else (99, 0, 0, 0)) else (bif Nat.beq i 1059 then (1, 269, 3, 0) else (99, 0, 0, 0))))))
def mlk15 (i : Nat) : mK := (bif Nat.blt i 65 then (bif Nat.blt i 37 then (bif Nat.blt i 21 then (bif Nat.blt i 13 then (bif Nat.blt i 8 then (bif Nat.beq i 7 then (1, 1, 4, 0) else (99, 0, 0, 0)) else (bif Nat.beq i 8 then (2, 0, 0, 0) else (99, 0, 0, 0))) else (bif Nat.blt i 15 then (bif Nat.beq i 13 then (7, 0, 0, 0) else (99, 0, 0, 0)) else (bif Nat.blt i 19 then (bif Nat.beq i 15 then (1, 2, 1, 0) else (99, 0, 0, 0)) else (bif Nat.beq i 19 then (7, 1, 0, 0) else (99, 0, 0, 0))))) else (bif Nat.blt i 27 then (bif Nat.blt i 25 then (bif Nat.beq i 21 then (1, 4, 3, 0) else (99, 0, 0, 0)) else (bif Nat.beq i 25 then (7, 2, 0, 0) else (99, 0, 0, 0))) else (bif Nat.blt i 31 then (bif Nat.beq i 27 then (1, 5, 3, 0) else (99, 0, 0, 0)) else (bif Nat.blt i 34 then (bif Nat.beq i 31 then (1, 6, 1, 0) else (99, 0, 0, 0)) else (bif Nat.beq i 34 then (1, 7, 1, 0) else (99, 0, 0, 0)))))) else (bif Nat.blt i 50 then (bif Nat.blt i 43 then (bif Nat.blt i 39 then (bif Nat.beq i 37 then (7, 3, 0, 0) else (99, 0, 0, 0)) else (bif Nat.beq i 39 then (1, 10, 2, 0) else (99, 0, 0, 0))) else (bif Nat.blt i 47 then (bif Nat.beq i 43 then (1, 12, 2, 0) else (99, 0, 0, 0)) else (bif Nat.blt i 48 then (bif Nat.beq i 47 then (1, 0, 1, 0) else (99, 0, 0, 0)) else (bif Nat.beq i 48 then (2, 12, 0, 0) else (99, 0, 0, 0))))) else (bif Nat.blt i 58 then (bif Nat.blt i 51 then (bif Nat.beq i 50 then (1, 161, 1, 0) else (99, 0, 0, 0)) else (bif Nat.blt i 53 then (bif Nat.beq i 51 then (4, 0, 0, 4294967295) else (99, 0, 0, 0)) else (bif Nat.beq i 53 then (1, 248, 5, 0) else (99, 0, 0, 0)))) else (bif Nat.blt i 59 then (bif Nat.beq i 58 then (1, 216, 4, 0) else (99, 0, 0, 0)) else (bif Nat.blt i 62 then (bif Nat.beq i 59 then (1, 162, 1, 0) else (99, 0, 0, 0)) else (bif Nat.beq i 62 then (1, 249, 2, 0) else (99, 0, 0, 0))))))) else (bif Nat.blt i 83 then (bif Nat.blt i 74 then (bif Nat.blt i 69 then (bif Nat.blt i 66 then (bif Nat.beq i 65 then (1, 217, 1, 0) else (99, 0, 0, 0)) else (bif Nat.beq i 66 then (1, 3, 1, 0) else (99, 0, 0, 0))) else (bif Nat.blt i 70 then (bif Nat.beq i 69 then (1, 218, 1, 0) else (99, 0, 0, 0)) else (bif Nat.blt i 73 then (bif Nat.beq i 70 then (1, 250, 4, 0) else (99, 0, 0, 0)) else (bif Nat.beq i 73 then (1, 220, 3, 0) else (99, 0, 0, 0))))) else (bif Nat.blt i 78 then (bif Nat.blt i 77 then (bif Nat.beq i 74 then (1, 251, 4, 0) else (99, 0, 0, 0)) else (bif Nat.beq i 77 then (1, 221, 3, 0) else (99, 0, 0, 0))) else (bif Nat.blt i 80 then (bif Nat.beq i 78 then (1, 252, 2, 0) else (99, 0, 0, 0)) else (bif Nat.blt i 81 then (bif Nat.beq i 80 then (1, 222, 1, 0) else (99, 0, 0, 0)) else (bif Nat.beq i 81 then (1, 253, 2, 0) else (99, 0, 0, 0)))))) else (bif Nat.blt i 92 then (bif Nat.blt i 87 then (bif Nat.blt i 84 then (bif Nat.beq i 83 then (1, 223, 1, 0) else (99, 0, 0, 0)) else (bif Nat.beq i 84 then (1, 8, 1, 0) else (99, 0, 0, 0))) else (bif Nat.blt i 88 then (bif Nat.beq i 87 then (1, 224, 1, 0) else (99, 0, 0, 0)) else (bif Nat.blt i 91 then (bif Nat.beq i 88 then (1, 9, 1, 0) else (99, 0, 0, 0)) else (bif Nat.beq i 91 then (1, 225, 1, 0) else (99, 0, 0, 0))))) else (bif Nat.blt i 100 then (bif Nat.blt i 95 then (bif Nat.beq i 92 then (1, 254, 3, 0) else (99, 0, 0, 0)) else (bif Nat.blt i 96 then (bif Nat.beq i 95 then (1, 226, 2, 0) else (99, 0, 0, 0)) else (bif Nat.beq i 96 then (1, 11, 1, 0) else (99, 0, 0, 0)))) else (bif Nat.blt i 101 then (bif Nat.beq i 100 then (1, 227, 1, 0) else (99, 0, 0, 0)) else (bif Nat.blt i 104 then (bif Nat.beq i 101 then (1, 255, 3, 0) else (99, 0, 0, 0)) else (bif Nat.beq i 104 then (1, 228, 2, 0) else (99, 0, 0, 0))))))))
def mlk16 (i : Nat) : mK := (bif Nat.blt i 88 then (bif Nat.blt i 38 then (bif Nat.beq i 9 then (1, 247, 2, 0) else (99, 0, 0, 0)) else (bif Nat.beq i 38 then (1, 265, 2, 0) else (99, 0, 0, 0))) else (bif Nat.blt i 92 then (bif Nat.beq i 88 then (1, 258, 1, 0) else (99, 0, 0, 0)) else (bif Nat.blt i 95 then (bif Nat.beq i 92 then (1, 264, 2, 0) else (99, 0, 0, 0)) else (bif Nat.beq i 95 then (1, 260, 4, 0) else (99, 0, 0, 0)))))
def mlk17 (i : Nat) : mK := (99, 0, 0, 0)
def mlk18 (i : Nat) : mK := (bif Nat.beq i 308 then (1, 268, 1, 0) else (99, 0, 0, 0))
def mlk19 (i : Nat) : mK := (bif Nat.beq i 264 then (3, 0, 0, 65536) else (99, 0, 0, 0))
def mlk20 (i : Nat) : mK := (99, 0, 0, 0)
def mlk (o i : Nat) : mK := bif Nat.blt i 1064 then (([mlk0, mlk1, mlk2, mlk3, mlk4, mlk5, mlk6, mlk7, mlk8, mlk9, mlk10, mlk11, mlk12, mlk13, mlk14, mlk15, mlk16, mlk17, mlk18, mlk19, mlk20] : List (Nat → mK)).getD o (fun _ => (99, 0, 0, 0))) i else (99, 0, 0, 0)
