theorem tw19 : (Jvm.Cond.initialized "LeafFormula$Faults") ∈ gtbl := gt_of 112 (by decide +kernel) (by decide +kernel)
theorem tw20 : (Jvm.Cond.initialized "java/util/Arrays") ∈ gtbl := gt_of 113 (by decide +kernel) (by decide +kernel)
theorem tw163 : (Jvm.Cond.fieldLink "LeafFormula$Reader" (53 : Nat) "LeafFormula$Reader" "at" "I") ∈ gtbl := gt_of 256 (by decide +kernel) (by decide +kernel)
theorem tw164 : (Jvm.Cond.fieldLink "LeafFormula$Reader" (81 : Nat) "LeafFormula$Reader" "taken" "I") ∈ gtbl := gt_of 257 (by decide +kernel) (by decide +kernel)
theorem tw191 : (Jvm.Cond.fieldLink "LeafFormula$Plan" (38 : Nat) "LeafFormula$Plan" "gatheringCount" "I") ∈ gtbl := gt_of 284 (by decide +kernel) (by decide +kernel)
theorem tw345 : (Jvm.Cond.code ({ cls := "LeafFormula$Reader", name := "readsFormula", desc := "()Z" } : Jvm.MethodName) prog_9_method_2_code (2 : Nat) (Option.some Jvm.ClassFile.FieldType.boolean)) ∈ gtbl := gt_of 438 (by decide +kernel) (by decide +kernel)
theorem tw346 : (Jvm.Cond.methodLink "LeafFormula$Reader" (33 : Nat) ({ cls := "LeafFormula$Reader", name := "begin", desc := "()V" } : Jvm.MethodName)) ∈ gtbl := gt_of 439 (by decide +kernel) (by decide +kernel)
theorem tw348 : (Jvm.Cond.instanceMethod ({ cls := "LeafFormula$Reader", name := "begin", desc := "()V" } : Jvm.MethodName)) ∈ gtbl := gt_of 441 (by decide +kernel) (by decide +kernel)
theorem tw349 : (Jvm.Cond.code ({ cls := "LeafFormula$Reader", name := "begin", desc := "()V" } : Jvm.MethodName) prog_9_method_6_code (1 : Nat) (Option.none : Option Jvm.ClassFile.FieldType)) ∈ gtbl := gt_of 442 (by decide +kernel) (by decide +kernel)
theorem tw350 : (Jvm.Cond.methodLink "LeafFormula$Reader" (56 : Nat) ({ cls := "LeafFormula$Groups", name := "clear", desc := "()V" } : Jvm.MethodName)) ∈ gtbl := gt_of 443 (by decide +kernel) (by decide +kernel)
theorem tw351 : (Jvm.Cond.instanceMethod ({ cls := "LeafFormula$Groups", name := "clear", desc := "()V" } : Jvm.MethodName)) ∈ gtbl := gt_of 444 (by decide +kernel) (by decide +kernel)
theorem tw352 : (Jvm.Cond.selects "LeafFormula$Groups" ({ cls := "LeafFormula$Groups", name := "clear", desc := "()V" } : Jvm.MethodName) ({ cls := "LeafFormula$Groups", name := "clear", desc := "()V" } : Jvm.MethodName)) ∈ gtbl := gt_of 445 (by decide +kernel) (by decide +kernel)
theorem tw358 : (Jvm.Cond.methodLink "LeafFormula$Reader" (59 : Nat) ({ cls := "LeafFormula$NamedLeaves", name := "clear", desc := "()V" } : Jvm.MethodName)) ∈ gtbl := gt_of 451 (by decide +kernel) (by decide +kernel)
theorem tw359 : (Jvm.Cond.instanceMethod ({ cls := "LeafFormula$NamedLeaves", name := "clear", desc := "()V" } : Jvm.MethodName)) ∈ gtbl := gt_of 452 (by decide +kernel) (by decide +kernel)
theorem tw360 : (Jvm.Cond.selects "LeafFormula$NamedLeaves" ({ cls := "LeafFormula$NamedLeaves", name := "clear", desc := "()V" } : Jvm.MethodName) ({ cls := "LeafFormula$NamedLeaves", name := "clear", desc := "()V" } : Jvm.MethodName)) ∈ gtbl := gt_of 453 (by decide +kernel) (by decide +kernel)
theorem tw363 : (Jvm.Cond.methodLink "LeafFormula$Reader" (60 : Nat) ({ cls := "LeafFormula$Tape", name := "cutIntoPieces", desc := "()V" } : Jvm.MethodName)) ∈ gtbl := gt_of 456 (by decide +kernel) (by decide +kernel)
theorem tw364 : (Jvm.Cond.instanceMethod ({ cls := "LeafFormula$Tape", name := "cutIntoPieces", desc := "()V" } : Jvm.MethodName)) ∈ gtbl := gt_of 457 (by decide +kernel) (by decide +kernel)
theorem tw365 : (Jvm.Cond.selects "LeafFormula$Tape" ({ cls := "LeafFormula$Tape", name := "cutIntoPieces", desc := "()V" } : Jvm.MethodName) ({ cls := "LeafFormula$Tape", name := "cutIntoPieces", desc := "()V" } : Jvm.MethodName)) ∈ gtbl := gt_of 458 (by decide +kernel) (by decide +kernel)
theorem tw366 : (Jvm.Cond.code ({ cls := "LeafFormula$Tape", name := "cutIntoPieces", desc := "()V" } : Jvm.MethodName) prog_12_method_5_code (3 : Nat) (Option.none : Option Jvm.ClassFile.FieldType)) ∈ gtbl := gt_of 459 (by decide +kernel) (by decide +kernel)
theorem tw367 : (Jvm.Cond.methodLink "LeafFormula$Tape" (34 : Nat) ({ cls := "LeafFormula$Row", name := "clear", desc := "()V" } : Jvm.MethodName)) ∈ gtbl := gt_of 460 (by decide +kernel) (by decide +kernel)
theorem tw368 : (Jvm.Cond.methodLink "LeafFormula$Tape" (37 : Nat) ({ cls := "LeafFormula$Tape", name := "widthAt", desc := "(I)I" } : Jvm.MethodName)) ∈ gtbl := gt_of 461 (by decide +kernel) (by decide +kernel)
theorem tw370 : (Jvm.Cond.instanceMethod ({ cls := "LeafFormula$Tape", name := "widthAt", desc := "(I)I" } : Jvm.MethodName)) ∈ gtbl := gt_of 463 (by decide +kernel) (by decide +kernel)
theorem tw382 : (Jvm.Cond.methodLink "LeafFormula$Tape" (44 : Nat) ({ cls := "LeafFormula$Tape", name := "addPiece", desc := "(II)V" } : Jvm.MethodName)) ∈ gtbl := gt_of 475 (by decide +kernel) (by decide +kernel)
theorem tw384 : (Jvm.Cond.instanceMethod ({ cls := "LeafFormula$Tape", name := "addPiece", desc := "(II)V" } : Jvm.MethodName)) ∈ gtbl := gt_of 477 (by decide +kernel) (by decide +kernel)
theorem tw486 : (Jvm.Cond.methodLink "LeafFormula$Tape" (48 : Nat) ({ cls := "java/lang/Math", name := "max", desc := "(II)I" } : Jvm.MethodName)) ∈ gtbl := gt_of 579 (by decide +kernel) (by decide +kernel)
theorem tw487 : (Jvm.Cond.methodLink "LeafFormula$Reader" (36 : Nat) ({ cls := "LeafFormula$Reader", name := "readsGroup", desc := "()Z" } : Jvm.MethodName)) ∈ gtbl := gt_of 580 (by decide +kernel) (by decide +kernel)
theorem tw489 : (Jvm.Cond.instanceMethod ({ cls := "LeafFormula$Reader", name := "readsGroup", desc := "()Z" } : Jvm.MethodName)) ∈ gtbl := gt_of 582 (by decide +kernel) (by decide +kernel)
theorem tw490 : (Jvm.Cond.code ({ cls := "LeafFormula$Reader", name := "readsGroup", desc := "()Z" } : Jvm.MethodName) prog_9_method_9_code (2 : Nat) (Option.some Jvm.ClassFile.FieldType.boolean)) ∈ gtbl := gt_of 583 (by decide +kernel) (by decide +kernel)
theorem tw491 : (Jvm.Cond.methodLink "LeafFormula$Reader" (47 : Nat) ({ cls := "LeafFormula$Reader", name := "takes", desc := "(I)Z" } : Jvm.MethodName)) ∈ gtbl := gt_of 584 (by decide +kernel) (by decide +kernel)
theorem tw493 : (Jvm.Cond.instanceMethod ({ cls := "LeafFormula$Reader", name := "takes", desc := "(I)Z" } : Jvm.MethodName)) ∈ gtbl := gt_of 586 (by decide +kernel) (by decide +kernel)
theorem tw494 : (Jvm.Cond.code ({ cls := "LeafFormula$Reader", name := "takes", desc := "(I)Z" } : Jvm.MethodName) prog_9_method_7_code (2 : Nat) (Option.some Jvm.ClassFile.FieldType.boolean)) ∈ gtbl := gt_of 587 (by decide +kernel) (by decide +kernel)
theorem tw495 : (Jvm.Cond.methodLink "LeafFormula$Reader" (69 : Nat) ({ cls := "LeafFormula$Row", name := "get", desc := "(I)I" } : Jvm.MethodName)) ∈ gtbl := gt_of 588 (by decide +kernel) (by decide +kernel)
theorem tw496 : (Jvm.Cond.instanceMethod ({ cls := "LeafFormula$Row", name := "get", desc := "(I)I" } : Jvm.MethodName)) ∈ gtbl := gt_of 589 (by decide +kernel) (by decide +kernel)
theorem tw497 : (Jvm.Cond.selects "LeafFormula$Row" ({ cls := "LeafFormula$Row", name := "get", desc := "(I)I" } : Jvm.MethodName) ({ cls := "LeafFormula$Row", name := "get", desc := "(I)I" } : Jvm.MethodName)) ∈ gtbl := gt_of 590 (by decide +kernel) (by decide +kernel)
theorem tw498 : (Jvm.Cond.code ({ cls := "LeafFormula$Row", name := "get", desc := "(I)I" } : Jvm.MethodName) prog_10_method_3_code (2 : Nat) (Option.some Jvm.ClassFile.FieldType.int)) ∈ gtbl := gt_of 591 (by decide +kernel) (by decide +kernel)
theorem tw499 : (Jvm.Cond.methodLink "LeafFormula$Reader" (87 : Nat) ({ cls := "LeafFormula$Row", name := "add", desc := "(I)Z" } : Jvm.MethodName)) ∈ gtbl := gt_of 592 (by decide +kernel) (by decide +kernel)
theorem tw500 : (Jvm.Cond.methodLink "LeafFormula$Reader" (40 : Nat) ({ cls := "LeafFormula$Reader", name := "skips", desc := "(I)Z" } : Jvm.MethodName)) ∈ gtbl := gt_of 593 (by decide +kernel) (by decide +kernel)
theorem tw502 : (Jvm.Cond.instanceMethod ({ cls := "LeafFormula$Reader", name := "skips", desc := "(I)Z" } : Jvm.MethodName)) ∈ gtbl := gt_of 595 (by decide +kernel) (by decide +kernel)
theorem tw503 : (Jvm.Cond.code ({ cls := "LeafFormula$Reader", name := "skips", desc := "(I)Z" } : Jvm.MethodName) prog_9_method_8_code (2 : Nat) (Option.some Jvm.ClassFile.FieldType.boolean)) ∈ gtbl := gt_of 596 (by decide +kernel) (by decide +kernel)
theorem tw504 : (Jvm.Cond.methodLink "LeafFormula$Reader" (44 : Nat) ({ cls := "LeafFormula$Reader", name := "readsChangeList", desc := "()Z" } : Jvm.MethodName)) ∈ gtbl := gt_of 597 (by decide +kernel) (by decide +kernel)
theorem tw506 : (Jvm.Cond.instanceMethod ({ cls := "LeafFormula$Reader", name := "readsChangeList", desc := "()Z" } : Jvm.MethodName)) ∈ gtbl := gt_of 599 (by decide +kernel) (by decide +kernel)
theorem tw507 : (Jvm.Cond.code ({ cls := "LeafFormula$Reader", name := "readsChangeList", desc := "()Z" } : Jvm.MethodName) prog_9_method_10_code (2 : Nat) (Option.some Jvm.ClassFile.FieldType.boolean)) ∈ gtbl := gt_of 600 (by decide +kernel) (by decide +kernel)
theorem tw508 : (Jvm.Cond.methodLink "LeafFormula$Reader" (106 : Nat) ({ cls := "LeafFormula$Reader", name := "readsChange", desc := "()Z" } : Jvm.MethodName)) ∈ gtbl := gt_of 601 (by decide +kernel) (by decide +kernel)
theorem tw510 : (Jvm.Cond.instanceMethod ({ cls := "LeafFormula$Reader", name := "readsChange", desc := "()Z" } : Jvm.MethodName)) ∈ gtbl := gt_of 603 (by decide +kernel) (by decide +kernel)
theorem tw511 : (Jvm.Cond.code ({ cls := "LeafFormula$Reader", name := "readsChange", desc := "()Z" } : Jvm.MethodName) prog_9_method_11_code (2 : Nat) (Option.some Jvm.ClassFile.FieldType.boolean)) ∈ gtbl := gt_of 604 (by decide +kernel) (by decide +kernel)
theorem tw512 : (Jvm.Cond.methodLink "LeafFormula$Reader" (102 : Nat) ({ cls := "LeafFormula$NamedLeaves", name := "amount", desc := "()I" } : Jvm.MethodName)) ∈ gtbl := gt_of 605 (by decide +kernel) (by decide +kernel)
theorem tw513 : (Jvm.Cond.instanceMethod ({ cls := "LeafFormula$NamedLeaves", name := "amount", desc := "()I" } : Jvm.MethodName)) ∈ gtbl := gt_of 606 (by decide +kernel) (by decide +kernel)
theorem tw514 : (Jvm.Cond.selects "LeafFormula$NamedLeaves" ({ cls := "LeafFormula$NamedLeaves", name := "amount", desc := "()I" } : Jvm.MethodName) ({ cls := "LeafFormula$NamedLeaves", name := "amount", desc := "()I" } : Jvm.MethodName)) ∈ gtbl := gt_of 607 (by decide +kernel) (by decide +kernel)
theorem tw515 : (Jvm.Cond.code ({ cls := "LeafFormula$NamedLeaves", name := "amount", desc := "()I" } : Jvm.MethodName) prog_7_method_3_code (1 : Nat) (Option.some Jvm.ClassFile.FieldType.int)) ∈ gtbl := gt_of 608 (by decide +kernel) (by decide +kernel)
theorem tw522 : (Jvm.Cond.code ({ cls := "LeafFormula$Faults", name := "ofFormula", desc := "(LLeafFormula$Reader;LLeafFormula$Plan;)I" } : Jvm.MethodName) prog_5_method_2_code (5 : Nat) (Option.some Jvm.ClassFile.FieldType.int)) ∈ gtbl := gt_of 615 (by decide +kernel) (by decide +kernel)
theorem tw523 : (Jvm.Cond.methodLink "LeafFormula$Faults" (9 : Nat) ({ cls := "LeafFormula$Plan", name := "clear", desc := "()V" } : Jvm.MethodName)) ∈ gtbl := gt_of 616 (by decide +kernel) (by decide +kernel)
theorem tw524 : (Jvm.Cond.instanceMethod ({ cls := "LeafFormula$Plan", name := "clear", desc := "()V" } : Jvm.MethodName)) ∈ gtbl := gt_of 617 (by decide +kernel) (by decide +kernel)
theorem tw525 : (Jvm.Cond.selects "LeafFormula$Plan" ({ cls := "LeafFormula$Plan", name := "clear", desc := "()V" } : Jvm.MethodName) ({ cls := "LeafFormula$Plan", name := "clear", desc := "()V" } : Jvm.MethodName)) ∈ gtbl := gt_of 618 (by decide +kernel) (by decide +kernel)
theorem tw526 : (Jvm.Cond.code ({ cls := "LeafFormula$Plan", name := "clear", desc := "()V" } : Jvm.MethodName) prog_8_method_2_code (1 : Nat) (Option.none : Option Jvm.ClassFile.FieldType)) ∈ gtbl := gt_of 619 (by decide +kernel) (by decide +kernel)
theorem tw527 : (Jvm.Cond.methodLink "LeafFormula$Plan" (29 : Nat) ({ cls := "java/util/Arrays", name := "fill", desc := "([II)V" } : Jvm.MethodName)) ∈ gtbl := gt_of 620 (by decide +kernel) (by decide +kernel)
theorem tw528 : (Jvm.Cond.static ({ cls := "java/util/Arrays", name := "fill", desc := "([II)V" } : Jvm.MethodName)) ∈ gtbl := gt_of 621 (by decide +kernel) (by decide +kernel)
theorem tw529 : (Jvm.Cond.code ({ cls := "java/util/Arrays", name := "fill", desc := "([II)V" } : Jvm.MethodName) prog_26_method_103_code (4 : Nat) (Option.none : Option Jvm.ClassFile.FieldType)) ∈ gtbl := gt_of 622 (by decide +kernel) (by decide +kernel)
theorem tw530 : (Jvm.Cond.methodLink "LeafFormula$Plan" (35 : Nat) ({ cls := "java/util/Arrays", name := "fill", desc := "([BB)V" } : Jvm.MethodName)) ∈ gtbl := gt_of 623 (by decide +kernel) (by decide +kernel)
theorem tw531 : (Jvm.Cond.static ({ cls := "java/util/Arrays", name := "fill", desc := "([BB)V" } : Jvm.MethodName)) ∈ gtbl := gt_of 624 (by decide +kernel) (by decide +kernel)
theorem tw532 : (Jvm.Cond.code ({ cls := "java/util/Arrays", name := "fill", desc := "([BB)V" } : Jvm.MethodName) prog_26_method_109_code (4 : Nat) (Option.none : Option Jvm.ClassFile.FieldType)) ∈ gtbl := gt_of 625 (by decide +kernel) (by decide +kernel)
theorem tw533 : (Jvm.Cond.methodLink "LeafFormula$Faults" (32 : Nat) ({ cls := "LeafFormula$Faults", name := "ofGroup", desc := "(LLeafFormula$Reader;IILLeafFormula$Plan;)I" } : Jvm.MethodName)) ∈ gtbl := gt_of 626 (by decide +kernel) (by decide +kernel)
theorem tw534 : (Jvm.Cond.static ({ cls := "LeafFormula$Faults", name := "ofGroup", desc := "(LLeafFormula$Reader;IILLeafFormula$Plan;)I" } : Jvm.MethodName)) ∈ gtbl := gt_of 627 (by decide +kernel) (by decide +kernel)
theorem tw535 : (Jvm.Cond.code ({ cls := "LeafFormula$Faults", name := "ofGroup", desc := "(LLeafFormula$Reader;IILLeafFormula$Plan;)I" } : Jvm.MethodName) prog_5_method_3_code (10 : Nat) (Option.some Jvm.ClassFile.FieldType.int)) ∈ gtbl := gt_of 628 (by decide +kernel) (by decide +kernel)
theorem tw536 : (Jvm.Cond.methodLink "LeafFormula$Faults" (41 : Nat) ({ cls := "LeafFormula$Row", name := "get", desc := "(I)I" } : Jvm.MethodName)) ∈ gtbl := gt_of 629 (by decide +kernel) (by decide +kernel)
theorem tw537 : (Jvm.Cond.methodLink "LeafFormula$Faults" (54 : Nat) ({ cls := "LeafFormula$Plan", name := "sizeOf", desc := "(I)I" } : Jvm.MethodName)) ∈ gtbl := gt_of 630 (by decide +kernel) (by decide +kernel)
theorem tw538 : (Jvm.Cond.instanceMethod ({ cls := "LeafFormula$Plan", name := "sizeOf", desc := "(I)I" } : Jvm.MethodName)) ∈ gtbl := gt_of 631 (by decide +kernel) (by decide +kernel)
theorem tw539 : (Jvm.Cond.selects "LeafFormula$Plan" ({ cls := "LeafFormula$Plan", name := "sizeOf", desc := "(I)I" } : Jvm.MethodName) ({ cls := "LeafFormula$Plan", name := "sizeOf", desc := "(I)I" } : Jvm.MethodName)) ∈ gtbl := gt_of 632 (by decide +kernel) (by decide +kernel)
theorem tw540 : (Jvm.Cond.code ({ cls := "LeafFormula$Plan", name := "sizeOf", desc := "(I)I" } : Jvm.MethodName) prog_8_method_8_code (2 : Nat) (Option.some Jvm.ClassFile.FieldType.int)) ∈ gtbl := gt_of 633 (by decide +kernel) (by decide +kernel)
theorem tw541 : (Jvm.Cond.methodLink "LeafFormula$Faults" (60 : Nat) ({ cls := "LeafFormula$Faults", name := "isSize", desc := "(I)Z" } : Jvm.MethodName)) ∈ gtbl := gt_of 634 (by decide +kernel) (by decide +kernel)
theorem tw542 : (Jvm.Cond.static ({ cls := "LeafFormula$Faults", name := "isSize", desc := "(I)Z" } : Jvm.MethodName)) ∈ gtbl := gt_of 635 (by decide +kernel) (by decide +kernel)
theorem tw543 : (Jvm.Cond.code ({ cls := "LeafFormula$Faults", name := "isSize", desc := "(I)Z" } : Jvm.MethodName) prog_5_method_4_code (1 : Nat) (Option.some Jvm.ClassFile.FieldType.boolean)) ∈ gtbl := gt_of 636 (by decide +kernel) (by decide +kernel)
theorem tw544 : (Jvm.Cond.methodLink "LeafFormula$Faults" (64 : Nat) ({ cls := "LeafFormula$Plan", name := "addGroup", desc := "(IIII)V" } : Jvm.MethodName)) ∈ gtbl := gt_of 637 (by decide +kernel) (by decide +kernel)
theorem tw545 : (Jvm.Cond.instanceMethod ({ cls := "LeafFormula$Plan", name := "addGroup", desc := "(IIII)V" } : Jvm.MethodName)) ∈ gtbl := gt_of 638 (by decide +kernel) (by decide +kernel)
theorem tw546 : (Jvm.Cond.selects "LeafFormula$Plan" ({ cls := "LeafFormula$Plan", name := "addGroup", desc := "(IIII)V" } : Jvm.MethodName) ({ cls := "LeafFormula$Plan", name := "addGroup", desc := "(IIII)V" } : Jvm.MethodName)) ∈ gtbl := gt_of 639 (by decide +kernel) (by decide +kernel)
theorem tw547 : (Jvm.Cond.code ({ cls := "LeafFormula$Plan", name := "addGroup", desc := "(IIII)V" } : Jvm.MethodName) prog_8_method_4_code (6 : Nat) (Option.none : Option Jvm.ClassFile.FieldType)) ∈ gtbl := gt_of 640 (by decide +kernel) (by decide +kernel)
theorem tw548 : (Jvm.Cond.methodLink "LeafFormula$Plan" (47 : Nat) ({ cls := "LeafFormula$Plan", name := "addGathering", desc := "(II)V" } : Jvm.MethodName)) ∈ gtbl := gt_of 641 (by decide +kernel) (by decide +kernel)
theorem tw550 : (Jvm.Cond.instanceMethod ({ cls := "LeafFormula$Plan", name := "addGathering", desc := "(II)V" } : Jvm.MethodName)) ∈ gtbl := gt_of 643 (by decide +kernel) (by decide +kernel)
theorem tw551 : (Jvm.Cond.code ({ cls := "LeafFormula$Plan", name := "addGathering", desc := "(II)V" } : Jvm.MethodName) prog_8_method_5_code (3 : Nat) (Option.none : Option Jvm.ClassFile.FieldType)) ∈ gtbl := gt_of 644 (by decide +kernel) (by decide +kernel)
theorem tw552 : (Jvm.Cond.methodLink "LeafFormula$Faults" (72 : Nat) ({ cls := "LeafFormula$Faults", name := "ofSigns", desc := "(LLeafFormula$NamedLeaves;IIII)Z" } : Jvm.MethodName)) ∈ gtbl := gt_of 645 (by decide +kernel) (by decide +kernel)
theorem tw553 : (Jvm.Cond.static ({ cls := "LeafFormula$Faults", name := "ofSigns", desc := "(LLeafFormula$NamedLeaves;IIII)Z" } : Jvm.MethodName)) ∈ gtbl := gt_of 646 (by decide +kernel) (by decide +kernel)
theorem tw554 : (Jvm.Cond.code ({ cls := "LeafFormula$Faults", name := "ofSigns", desc := "(LLeafFormula$NamedLeaves;IIII)Z" } : Jvm.MethodName) prog_5_method_5_code (6 : Nat) (Option.some Jvm.ClassFile.FieldType.boolean)) ∈ gtbl := gt_of 647 (by decide +kernel) (by decide +kernel)
theorem tw555 : (Jvm.Cond.methodLink "LeafFormula$Faults" (76 : Nat) ({ cls := "LeafFormula$Faults", name := "ofChanges", desc := "(LLeafFormula$NamedLeaves;IILLeafFormula$Plan;)I" } : Jvm.MethodName)) ∈ gtbl := gt_of 648 (by decide +kernel) (by decide +kernel)
theorem tw556 : (Jvm.Cond.static ({ cls := "LeafFormula$Faults", name := "ofChanges", desc := "(LLeafFormula$NamedLeaves;IILLeafFormula$Plan;)I" } : Jvm.MethodName)) ∈ gtbl := gt_of 649 (by decide +kernel) (by decide +kernel)
theorem tw557 : (Jvm.Cond.code ({ cls := "LeafFormula$Faults", name := "ofChanges", desc := "(LLeafFormula$NamedLeaves;IILLeafFormula$Plan;)I" } : Jvm.MethodName) prog_5_method_6_code (6 : Nat) (Option.some Jvm.ClassFile.FieldType.int)) ∈ gtbl := gt_of 650 (by decide +kernel) (by decide +kernel)
theorem tw558 : (Jvm.Cond.methodLink "LeafFormula$Faults" (88 : Nat) ({ cls := "LeafFormula$Plan", name := "slotOf", desc := "(II)I" } : Jvm.MethodName)) ∈ gtbl := gt_of 651 (by decide +kernel) (by decide +kernel)
theorem tw559 : (Jvm.Cond.instanceMethod ({ cls := "LeafFormula$Plan", name := "slotOf", desc := "(II)I" } : Jvm.MethodName)) ∈ gtbl := gt_of 652 (by decide +kernel) (by decide +kernel)
theorem tw560 : (Jvm.Cond.selects "LeafFormula$Plan" ({ cls := "LeafFormula$Plan", name := "slotOf", desc := "(II)I" } : Jvm.MethodName) ({ cls := "LeafFormula$Plan", name := "slotOf", desc := "(II)I" } : Jvm.MethodName)) ∈ gtbl := gt_of 653 (by decide +kernel) (by decide +kernel)
theorem tw561 : (Jvm.Cond.code ({ cls := "LeafFormula$Plan", name := "slotOf", desc := "(II)I" } : Jvm.MethodName) prog_8_method_9_code (3 : Nat) (Option.some Jvm.ClassFile.FieldType.int)) ∈ gtbl := gt_of 654 (by decide +kernel) (by decide +kernel)
theorem tw562 : (Jvm.Cond.methodLink "LeafFormula$Plan" (51 : Nat) ({ cls := "LeafFormula$Plan", name := "sizeOf", desc := "(I)I" } : Jvm.MethodName)) ∈ gtbl := gt_of 655 (by decide +kernel) (by decide +kernel)
theorem tw563 : (Jvm.Cond.methodLink "LeafFormula$Faults" (98 : Nat) ({ cls := "LeafFormula$Plan", name := "takesChange", desc := "(III)Z" } : Jvm.MethodName)) ∈ gtbl := gt_of 656 (by decide +kernel) (by decide +kernel)
theorem tw564 : (Jvm.Cond.instanceMethod ({ cls := "LeafFormula$Plan", name := "takesChange", desc := "(III)Z" } : Jvm.MethodName)) ∈ gtbl := gt_of 657 (by decide +kernel) (by decide +kernel)
theorem tw565 : (Jvm.Cond.selects "LeafFormula$Plan" ({ cls := "LeafFormula$Plan", name := "takesChange", desc := "(III)Z" } : Jvm.MethodName) ({ cls := "LeafFormula$Plan", name := "takesChange", desc := "(III)Z" } : Jvm.MethodName)) ∈ gtbl := gt_of 658 (by decide +kernel) (by decide +kernel)
theorem tw566 : (Jvm.Cond.code ({ cls := "LeafFormula$Plan", name := "takesChange", desc := "(III)Z" } : Jvm.MethodName) prog_8_method_6_code (5 : Nat) (Option.some Jvm.ClassFile.FieldType.boolean)) ∈ gtbl := gt_of 659 (by decide +kernel) (by decide +kernel)
theorem tw578 : (Jvm.Cond.code ({ cls := "LeafFormula$Plan", name := "insertedAt", desc := "(I)I" } : Jvm.MethodName) prog_8_method_13_code (2 : Nat) (Option.some Jvm.ClassFile.FieldType.int)) ∈ gtbl := gt_of 671 (by decide +kernel) (by decide +kernel)
theorem nw52 : (Jvm.Cond.fieldLinkNest "LeafFormula$Faults" (26 : Nat) "LeafFormula$Row" "length" "I" "LeafFormula") ∈ ntbl := nt_of 52 (by decide +kernel) (by decide +kernel)
theorem nw53 : (Jvm.Cond.fieldLinkNest "LeafFormula$NamedLeaves" (32 : Nat) "LeafFormula$Row" "length" "I" "LeafFormula") ∈ ntbl := nt_of 53 (by decide +kernel) (by decide +kernel)
theorem nw67 : (Jvm.Cond.fieldLinkNest "LeafFormula$Reader" (65 : Nat) "LeafFormula$Tape" "kinds" "LLeafFormula$Row;" "LeafFormula") ∈ ntbl := nt_of 67 (by decide +kernel) (by decide +kernel)
theorem nw69 : (Jvm.Cond.fieldLinkNest "LeafFormula$Reader" (75 : Nat) "LeafFormula$Tape" "starts" "LLeafFormula$Row;" "LeafFormula") ∈ ntbl := nt_of 69 (by decide +kernel) (by decide +kernel)
theorem nw71 : (Jvm.Cond.fieldLinkNest "LeafFormula$Reader" (78 : Nat) "LeafFormula$Tape" "values" "LLeafFormula$Row;" "LeafFormula") ∈ ntbl := nt_of 71 (by decide +kernel) (by decide +kernel)
theorem nw100 : (Jvm.Cond.fieldLinkNest "LeafFormula$Faults" (20 : Nat) "LeafFormula$Groups" "first" "LLeafFormula$Row;" "LeafFormula") ∈ ntbl := nt_of 100 (by decide +kernel) (by decide +kernel)
theorem nw101 : (Jvm.Cond.fieldLinkNest "LeafFormula$Reader" (84 : Nat) "LeafFormula$Groups" "first" "LLeafFormula$Row;" "LeafFormula") ∈ ntbl := nt_of 101 (by decide +kernel) (by decide +kernel)
theorem nw103 : (Jvm.Cond.fieldLinkNest "LeafFormula$Faults" (45 : Nat) "LeafFormula$Groups" "last" "LLeafFormula$Row;" "LeafFormula") ∈ ntbl := nt_of 103 (by decide +kernel) (by decide +kernel)
theorem nw104 : (Jvm.Cond.fieldLinkNest "LeafFormula$Reader" (90 : Nat) "LeafFormula$Groups" "last" "LLeafFormula$Row;" "LeafFormula") ∈ ntbl := nt_of 104 (by decide +kernel) (by decide +kernel)
theorem nw106 : (Jvm.Cond.fieldLinkNest "LeafFormula$Faults" (48 : Nat) "LeafFormula$Groups" "odd" "LLeafFormula$Row;" "LeafFormula") ∈ ntbl := nt_of 106 (by decide +kernel) (by decide +kernel)
theorem nw107 : (Jvm.Cond.fieldLinkNest "LeafFormula$Reader" (93 : Nat) "LeafFormula$Groups" "odd" "LLeafFormula$Row;" "LeafFormula") ∈ ntbl := nt_of 107 (by decide +kernel) (by decide +kernel)
theorem nw109 : (Jvm.Cond.fieldLinkNest "LeafFormula$Faults" (51 : Nat) "LeafFormula$Groups" "even" "LLeafFormula$Row;" "LeafFormula") ∈ ntbl := nt_of 109 (by decide +kernel) (by decide +kernel)
theorem nw110 : (Jvm.Cond.fieldLinkNest "LeafFormula$Reader" (96 : Nat) "LeafFormula$Groups" "even" "LLeafFormula$Row;" "LeafFormula") ∈ ntbl := nt_of 110 (by decide +kernel) (by decide +kernel)
theorem nw112 : (Jvm.Cond.fieldLinkNest "LeafFormula$Faults" (38 : Nat) "LeafFormula$Groups" "changesEnd" "LLeafFormula$Row;" "LeafFormula") ∈ ntbl := nt_of 112 (by decide +kernel) (by decide +kernel)
theorem nw113 : (Jvm.Cond.fieldLinkNest "LeafFormula$Reader" (99 : Nat) "LeafFormula$Groups" "changesEnd" "LLeafFormula$Row;" "LeafFormula") ∈ ntbl := nt_of 113 (by decide +kernel) (by decide +kernel)
theorem nw134 : (Jvm.Cond.fieldLinkNest "LeafFormula$Faults" (95 : Nat) "LeafFormula$NamedLeaves" "mark" "LLeafFormula$Row;" "LeafFormula") ∈ ntbl := nt_of 134 (by decide +kernel) (by decide +kernel)
theorem nw135 : (Jvm.Cond.fieldLinkNest "LeafFormula$Reader" (118 : Nat) "LeafFormula$NamedLeaves" "mark" "LLeafFormula$Row;" "LeafFormula") ∈ ntbl := nt_of 135 (by decide +kernel) (by decide +kernel)
theorem nw137 : (Jvm.Cond.fieldLinkNest "LeafFormula$Faults" (80 : Nat) "LeafFormula$NamedLeaves" "sign" "LLeafFormula$Row;" "LeafFormula") ∈ ntbl := nt_of 137 (by decide +kernel) (by decide +kernel)
theorem nw139 : (Jvm.Cond.fieldLinkNest "LeafFormula$Reader" (109 : Nat) "LeafFormula$NamedLeaves" "sign" "LLeafFormula$Row;" "LeafFormula") ∈ ntbl := nt_of 139 (by decide +kernel) (by decide +kernel)
theorem nw141 : (Jvm.Cond.fieldLinkNest "LeafFormula$Faults" (85 : Nat) "LeafFormula$NamedLeaves" "number" "LLeafFormula$Row;" "LeafFormula") ∈ ntbl := nt_of 141 (by decide +kernel) (by decide +kernel)
theorem nw143 : (Jvm.Cond.fieldLinkNest "LeafFormula$Reader" (112 : Nat) "LeafFormula$NamedLeaves" "number" "LLeafFormula$Row;" "LeafFormula") ∈ ntbl := nt_of 143 (by decide +kernel) (by decide +kernel)
theorem nw145 : (Jvm.Cond.fieldLinkNest "LeafFormula$Faults" (92 : Nat) "LeafFormula$NamedLeaves" "inserted" "LLeafFormula$Row;" "LeafFormula") ∈ ntbl := nt_of 145 (by decide +kernel) (by decide +kernel)
theorem nw147 : (Jvm.Cond.fieldLinkNest "LeafFormula$Reader" (115 : Nat) "LeafFormula$NamedLeaves" "inserted" "LLeafFormula$Row;" "LeafFormula") ∈ ntbl := nt_of 147 (by decide +kernel) (by decide +kernel)
theorem nw159 : (Jvm.Cond.fieldLinkNest "LeafFormula$Faults" (14 : Nat) "LeafFormula$Reader" "groups" "LLeafFormula$Groups;" "LeafFormula") ∈ ntbl := nt_of 159 (by decide +kernel) (by decide +kernel)
theorem nw161 : (Jvm.Cond.fieldLinkNest "LeafFormula$Faults" (68 : Nat) "LeafFormula$Reader" "leaves" "LLeafFormula$NamedLeaves;" "LeafFormula") ∈ ntbl := nt_of 161 (by decide +kernel) (by decide +kernel)
theorem nw195 : (Jvm.Cond.fieldLinkNest "LeafFormula$Faults" (57 : Nat) "LeafFormula$Plan" "highest" "I" "LeafFormula") ∈ ntbl := nt_of 195 (by decide +kernel) (by decide +kernel)
theorem pw2 : Cond.selects "LeafFormula$Reader" ⟨"LeafFormula$Reader", "begin", "()V"⟩ ⟨"LeafFormula$Reader", "begin", "()V"⟩ ∈ gtbl := gt_of 2 (by decide +kernel) (by decide +kernel)
theorem pw3 : Cond.selects "LeafFormula$Tape" ⟨"LeafFormula$Tape", "widthAt", "(I)I"⟩ ⟨"LeafFormula$Tape", "widthAt", "(I)I"⟩ ∈ gtbl := gt_of 3 (by decide +kernel) (by decide +kernel)
theorem pw5 : Cond.selects "LeafFormula$Tape" ⟨"LeafFormula$Tape", "addPiece", "(II)V"⟩ ⟨"LeafFormula$Tape", "addPiece", "(II)V"⟩ ∈ gtbl := gt_of 5 (by decide +kernel) (by decide +kernel)
theorem pw8 : Cond.selects "LeafFormula$Reader" ⟨"LeafFormula$Reader", "readsGroup", "()Z"⟩ ⟨"LeafFormula$Reader", "readsGroup", "()Z"⟩ ∈ gtbl := gt_of 8 (by decide +kernel) (by decide +kernel)
theorem pw9 : Cond.selects "LeafFormula$Reader" ⟨"LeafFormula$Reader", "takes", "(I)Z"⟩ ⟨"LeafFormula$Reader", "takes", "(I)Z"⟩ ∈ gtbl := gt_of 9 (by decide +kernel) (by decide +kernel)
theorem pw10 : Cond.selects "LeafFormula$Reader" ⟨"LeafFormula$Reader", "skips", "(I)Z"⟩ ⟨"LeafFormula$Reader", "skips", "(I)Z"⟩ ∈ gtbl := gt_of 10 (by decide +kernel) (by decide +kernel)
theorem pw11 : Cond.selects "LeafFormula$Reader" ⟨"LeafFormula$Reader", "readsChangeList", "()Z"⟩ ⟨"LeafFormula$Reader", "readsChangeList", "()Z"⟩ ∈ gtbl := gt_of 11 (by decide +kernel) (by decide +kernel)
theorem pw12 : Cond.selects "LeafFormula$Reader" ⟨"LeafFormula$Reader", "readsChange", "()Z"⟩ ⟨"LeafFormula$Reader", "readsChange", "()Z"⟩ ∈ gtbl := gt_of 12 (by decide +kernel) (by decide +kernel)
theorem pw14 : Cond.selects "LeafFormula$Plan" ⟨"LeafFormula$Plan", "addGathering", "(II)V"⟩ ⟨"LeafFormula$Plan", "addGathering", "(II)V"⟩ ∈ gtbl := gt_of 14 (by decide +kernel) (by decide +kernel)
/-! X10_cutIntoPieces -/
theorem dX10_cutIntoPieces_0 : decode cX10_cutIntoPieces 0 = .ok (.aload_n 0, 1) := by decide +kernel
theorem dX10_cutIntoPieces_1 : decode cX10_cutIntoPieces 1 = .ok (.getfield 20, 3) := by decide +kernel
theorem dX10_cutIntoPieces_4 : decode cX10_cutIntoPieces 4 = .ok (.invokevirtual 34, 3) := by decide +kernel
theorem dX10_cutIntoPieces_7 : decode cX10_cutIntoPieces 7 = .ok (.aload_n 0, 1) := by decide +kernel
theorem dX10_cutIntoPieces_8 : decode cX10_cutIntoPieces 8 = .ok (.getfield 24, 3) := by decide +kernel
theorem dX10_cutIntoPieces_11 : decode cX10_cutIntoPieces 11 = .ok (.invokevirtual 34, 3) := by decide +kernel
theorem dX10_cutIntoPieces_14 : decode cX10_cutIntoPieces 14 = .ok (.aload_n 0, 1) := by decide +kernel
theorem dX10_cutIntoPieces_15 : decode cX10_cutIntoPieces 15 = .ok (.getfield 27, 3) := by decide +kernel
theorem dX10_cutIntoPieces_18 : decode cX10_cutIntoPieces 18 = .ok (.invokevirtual 34, 3) := by decide +kernel
theorem dX10_cutIntoPieces_21 : decode cX10_cutIntoPieces 21 = .ok (.iconst 1, 1) := by decide +kernel
theorem dX10_cutIntoPieces_22 : decode cX10_cutIntoPieces 22 = .ok (.istore_n 1, 1) := by decide +kernel
theorem dX10_cutIntoPieces_23 : decode cX10_cutIntoPieces 23 = .ok (.iconst 0, 1) := by decide +kernel
theorem dX10_cutIntoPieces_24 : decode cX10_cutIntoPieces 24 = .ok (.istore_n 2, 1) := by decide +kernel
theorem dX10_cutIntoPieces_25 : decode cX10_cutIntoPieces 25 = .ok (.iload_n 2, 1) := by decide +kernel
theorem dX10_cutIntoPieces_26 : decode cX10_cutIntoPieces 26 = .ok (.aload_n 0, 1) := by decide +kernel
theorem dX10_cutIntoPieces_27 : decode cX10_cutIntoPieces 27 = .ok (.getfield 30, 3) := by decide +kernel
theorem dX10_cutIntoPieces_30 : decode cX10_cutIntoPieces 30 = .ok (.if_icmp .ge 36, 3) := by decide +kernel
theorem dX10_cutIntoPieces_33 : decode cX10_cutIntoPieces 33 = .ok (.aload_n 0, 1) := by decide +kernel
theorem dX10_cutIntoPieces_34 : decode cX10_cutIntoPieces 34 = .ok (.iload_n 2, 1) := by decide +kernel
theorem dX10_cutIntoPieces_35 : decode cX10_cutIntoPieces 35 = .ok (.invokevirtual 37, 3) := by decide +kernel
theorem dX10_cutIntoPieces_38 : decode cX10_cutIntoPieces 38 = .ok (.istore_n 1, 1) := by decide +kernel
theorem dX10_cutIntoPieces_39 : decode cX10_cutIntoPieces 39 = .ok (.aload_n 0, 1) := by decide +kernel
theorem dX10_cutIntoPieces_40 : decode cX10_cutIntoPieces 40 = .ok (.iload_n 2, 1) := by decide +kernel
theorem dX10_cutIntoPieces_41 : decode cX10_cutIntoPieces 41 = .ok (.invokevirtual 41, 3) := by decide +kernel
theorem dX10_cutIntoPieces_44 : decode cX10_cutIntoPieces 44 = .ok (.bipush 32, 2) := by decide +kernel
theorem dX10_cutIntoPieces_46 : decode cX10_cutIntoPieces 46 = .ok (.if_icmp .eq 9, 3) := by decide +kernel
theorem dX10_cutIntoPieces_49 : decode cX10_cutIntoPieces 49 = .ok (.aload_n 0, 1) := by decide +kernel
theorem dX10_cutIntoPieces_50 : decode cX10_cutIntoPieces 50 = .ok (.iload_n 2, 1) := by decide +kernel
theorem dX10_cutIntoPieces_51 : decode cX10_cutIntoPieces 51 = .ok (.iload_n 1, 1) := by decide +kernel
theorem dX10_cutIntoPieces_52 : decode cX10_cutIntoPieces 52 = .ok (.invokevirtual 44, 3) := by decide +kernel
theorem dX10_cutIntoPieces_55 : decode cX10_cutIntoPieces 55 = .ok (.iload_n 2, 1) := by decide +kernel
theorem dX10_cutIntoPieces_56 : decode cX10_cutIntoPieces 56 = .ok (.iload_n 1, 1) := by decide +kernel
theorem dX10_cutIntoPieces_57 : decode cX10_cutIntoPieces 57 = .ok (.iconst 1, 1) := by decide +kernel
theorem dX10_cutIntoPieces_58 : decode cX10_cutIntoPieces 58 = .ok (.invokestatic 48, 3) := by decide +kernel
theorem dX10_cutIntoPieces_61 : decode cX10_cutIntoPieces 61 = .ok (.iadd, 1) := by decide +kernel
theorem dX10_cutIntoPieces_62 : decode cX10_cutIntoPieces 62 = .ok (.istore_n 2, 1) := by decide +kernel
theorem dX10_cutIntoPieces_63 : decode cX10_cutIntoPieces 63 = .ok (.goto (-38), 3) := by decide +kernel
theorem dX10_cutIntoPieces_66 : decode cX10_cutIntoPieces 66 = .ok (.aload_n 0, 1) := by decide +kernel
theorem dX10_cutIntoPieces_67 : decode cX10_cutIntoPieces 67 = .ok (.getfield 20, 3) := by decide +kernel
theorem dX10_cutIntoPieces_70 : decode cX10_cutIntoPieces 70 = .ok (.iconst 0, 1) := by decide +kernel
theorem dX10_cutIntoPieces_71 : decode cX10_cutIntoPieces 71 = .ok (.invokevirtual 54, 3) := by decide +kernel
theorem dX10_cutIntoPieces_74 : decode cX10_cutIntoPieces 74 = .ok (.pop, 1) := by decide +kernel
theorem dX10_cutIntoPieces_75 : decode cX10_cutIntoPieces 75 = .ok (.aload_n 0, 1) := by decide +kernel
theorem dX10_cutIntoPieces_76 : decode cX10_cutIntoPieces 76 = .ok (.getfield 24, 3) := by decide +kernel
theorem dX10_cutIntoPieces_79 : decode cX10_cutIntoPieces 79 = .ok (.aload_n 0, 1) := by decide +kernel
theorem dX10_cutIntoPieces_80 : decode cX10_cutIntoPieces 80 = .ok (.getfield 30, 3) := by decide +kernel
theorem dX10_cutIntoPieces_83 : decode cX10_cutIntoPieces 83 = .ok (.invokevirtual 54, 3) := by decide +kernel
theorem dX10_cutIntoPieces_86 : decode cX10_cutIntoPieces 86 = .ok (.pop, 1) := by decide +kernel
theorem dX10_cutIntoPieces_87 : decode cX10_cutIntoPieces 87 = .ok (.aload_n 0, 1) := by decide +kernel
theorem dX10_cutIntoPieces_88 : decode cX10_cutIntoPieces 88 = .ok (.getfield 27, 3) := by decide +kernel
theorem dX10_cutIntoPieces_91 : decode cX10_cutIntoPieces 91 = .ok (.iconst 0, 1) := by decide +kernel
theorem dX10_cutIntoPieces_92 : decode cX10_cutIntoPieces 92 = .ok (.invokevirtual 54, 3) := by decide +kernel
theorem dX10_cutIntoPieces_95 : decode cX10_cutIntoPieces 95 = .ok (.pop, 1) := by decide +kernel
theorem dX10_cutIntoPieces_96 : decode cX10_cutIntoPieces 96 = .ok (.return_, 1) := by decide +kernel
def X10_cutIntoPieces_55 (k25 : Nat → Int32 → MM Unit) (this : Nat) (x1 : Int32) (x2 : Int32) : MM Unit :=
  (k25 this (x2 + (if x1 < (1 : Int32) then (1 : Int32) else x1)))
def X10_cutIntoPieces_66  (this : Nat) : MM Unit :=
  mb (gR 11 (some this) 1) fun v1 =>
  mb (wc 9 v1 fun t => X8_add t (0 : Int32)) fun v2 =>
  mb (gR 11 (some this) 2) fun v3 =>
  mb (gI 11 (some this) 4) fun v4 =>
  mb (wc 9 v3 fun t => X8_add t v4) fun v5 =>
  mb (gR 11 (some this) 3) fun v6 =>
  mb (wc 9 v6 fun t => X8_add t (0 : Int32)) fun v7 =>
  mr ()
def X10_cutIntoPieces_25_st  (k25 : Nat → Int32 → MM Unit) (this : Nat) (x2 : Int32) : MM Unit :=
  mb (gI 11 (some this) 4) fun v1 =>
  if v1 ≤ x2 then ((X10_cutIntoPieces_66 this)) else (mb (wc 11 (some this) fun t => X10_widthAt t x2) fun v2 =>
  mb (wc 11 (some this) fun t => X10_byteAt t x2) fun v3 =>
  if v3 = (32 : Int32) then ((X10_cutIntoPieces_55 k25 this v2 x2)) else (mb (wc 11 (some this) fun t => X10_addPiece t x2 v2) fun _ =>
  (X10_cutIntoPieces_55 k25 this v2 x2)))
def X10_cutIntoPieces_25  : Nat → Nat → Int32 → MM Unit
  | 0 => fun _ _ => mf
  | n + 1 => fun this x2 => X10_cutIntoPieces_25_st  (X10_cutIntoPieces_25  n) this x2
def X10_cutIntoPieces (this : Nat) : MM Unit :=
  mb (gR 11 (some this) 1) fun v1 =>
  mb (wc 9 v1 fun t => X8_clear t ) fun _ =>
  mb (gR 11 (some this) 2) fun v2 =>
  mb (wc 9 v2 fun t => X8_clear t ) fun _ =>
  mb (gR 11 (some this) 3) fun v3 =>
  mb (wc 9 v3 fun t => X8_clear t ) fun _ =>
  (X10_cutIntoPieces_25 LFU this (0 : Int32))
set_option maxRecDepth 100000 in
set_option maxHeartbeats 4000000 in
theorem s_X10_cutIntoPieces_55 (G : GG) (k25 : Nat → Int32 → MM Unit) (hk25 : ∀ (this : Nat) (x2 : Int32), Sn G yX10_cutIntoPieces cX10_cutIntoPieces 3 none 6 142 (fun _ : Unit => none) (k25 this x2) 25 [some (va_rf (some this)), none, some (.int x2)] []) (this : Nat) (x1 : Int32) (x2 : Int32) : Sn G yX10_cutIntoPieces cX10_cutIntoPieces 3 none 6 142 (fun _ : Unit => none) (X10_cutIntoPieces_55 k25 this x1 x2) 55 [some (va_rf (some this)), some (.int x1), some (.int x2)] [] := by
  unfold X10_cutIntoPieces_55
  refine sn_iload_n (v := x2) (pc' := 56) dX10_cutIntoPieces_55 rfl rfl rfl ?_
  refine sn_iload_n (v := x1) (pc' := 57) dX10_cutIntoPieces_56 rfl rfl rfl ?_
  refine sn_iconst (v := (1 : Int32)) (pc' := 58) dX10_cutIntoPieces_57 rfl (by decide) ?_
  refine sn_max (pc' := 61) rfl tw486 tw48 tw4 tw49 (cat_i cat_nil) rfl dX10_cutIntoPieces_58 rfl ?_
  refine sn_iadd (pc' := 62) dX10_cutIntoPieces_61 rfl ?_
  refine sn_istore_n (v := (x2 + (if x1 < (1 : Int32) then (1 : Int32) else x1))) (L' := [some (va_rf (some this)), some (.int x1), some (.int (x2 + (if x1 < (1 : Int32) then (1 : Int32) else x1)))]) (pc' := 63) dX10_cutIntoPieces_62 rfl rfl rfl rfl ?_
  refine sn_goto (pc' := 25) dX10_cutIntoPieces_63 rfl ?_
  exact sn_weak (le_s (le_n (le_s le_e))) (hk25 this (x2 + (if x1 < (1 : Int32) then (1 : Int32) else x1)))
set_option maxRecDepth 100000 in
set_option maxHeartbeats 4000000 in
theorem s_X10_cutIntoPieces_66 (G : GG)   (this : Nat) : Sn G yX10_cutIntoPieces cX10_cutIntoPieces 3 none 6 142 (fun _ : Unit => none) (X10_cutIntoPieces_66  this) 66 [some (va_rf (some this)), none, none] [] := by
  unfold X10_cutIntoPieces_66
  refine sn_aload_n (v := (some this)) (pc' := 67) dX10_cutIntoPieces_66 rfl rfl rfl ?_
  refine sn_gR (k := 1) (pc' := 70) ci_11 rfl (Or.inl tw66) dX10_cutIntoPieces_67 rfl (fun v1 => ?_)
  refine sn_iconst (v := (0 : Int32)) (pc' := 71) dX10_cutIntoPieces_70 rfl (by decide) ?_
  refine sn_cV (r := v1) (st := []) (As := [.int (0 : Int32)]) (st2 := (fun v => .int v :: [])) (pc' := 74) ci_9 (fun t => c_X8_add G t (0 : Int32)) cw_X8_add rfl rfl tw482 tw484 tw483 rfl rfl cat_nil rfl (fun _ => rfl) dX10_cutIntoPieces_71 rfl (fun v2 => ?_)
  refine sn_pop (pc' := 75) dX10_cutIntoPieces_74 rfl rfl ?_
  refine sn_aload_n (v := (some this)) (pc' := 76) dX10_cutIntoPieces_75 rfl rfl rfl ?_
  refine sn_gR (k := 2) (pc' := 79) ci_11 rfl (Or.inl tw68) dX10_cutIntoPieces_76 rfl (fun v3 => ?_)
  refine sn_aload_n (v := (some this)) (pc' := 80) dX10_cutIntoPieces_79 rfl rfl rfl ?_
  refine sn_gI (k := 4) (pc' := 83) ci_11 rfl (Or.inl tw72) dX10_cutIntoPieces_80 rfl (fun v4 => ?_)
  refine sn_cV (r := v3) (st := []) (As := [.int v4]) (st2 := (fun v => .int v :: [])) (pc' := 86) ci_9 (fun t => c_X8_add G t v4) cw_X8_add rfl rfl tw482 tw484 tw483 rfl rfl cat_nil rfl (fun _ => rfl) dX10_cutIntoPieces_83 rfl (fun v5 => ?_)
  refine sn_pop (pc' := 87) dX10_cutIntoPieces_86 rfl rfl ?_
  refine sn_aload_n (v := (some this)) (pc' := 88) dX10_cutIntoPieces_87 rfl rfl rfl ?_
  refine sn_gR (k := 3) (pc' := 91) ci_11 rfl (Or.inl tw70) dX10_cutIntoPieces_88 rfl (fun v6 => ?_)
  refine sn_iconst (v := (0 : Int32)) (pc' := 92) dX10_cutIntoPieces_91 rfl (by decide) ?_
  refine sn_cV (r := v6) (st := []) (As := [.int (0 : Int32)]) (st2 := (fun v => .int v :: [])) (pc' := 95) ci_9 (fun t => c_X8_add G t (0 : Int32)) cw_X8_add rfl rfl tw482 tw484 tw483 rfl rfl cat_nil rfl (fun _ => rfl) dX10_cutIntoPieces_92 rfl (fun v7 => ?_)
  refine sn_pop (pc' := 96) dX10_cutIntoPieces_95 rfl rfl ?_
  exact sn_vret dX10_cutIntoPieces_96 rfl
set_option maxRecDepth 100000 in
set_option maxHeartbeats 4000000 in
theorem s_X10_cutIntoPieces_25_st (G : GG)   (k25 : Nat → Int32 → MM Unit) (hk25 : ∀ (this : Nat) (x2 : Int32), Sn G yX10_cutIntoPieces cX10_cutIntoPieces 3 none 6 142 (fun _ : Unit => none) (k25 this x2) 25 [some (va_rf (some this)), none, some (.int x2)] []) (this : Nat) (x2 : Int32) : Sn G yX10_cutIntoPieces cX10_cutIntoPieces 3 none 6 142 (fun _ : Unit => none) (X10_cutIntoPieces_25_st  k25 this x2) 25 [some (va_rf (some this)), none, some (.int x2)] [] := by
  unfold X10_cutIntoPieces_25_st
  refine sn_iload_n (v := x2) (pc' := 26) dX10_cutIntoPieces_25 rfl rfl rfl ?_
  refine sn_aload_n (v := (some this)) (pc' := 27) dX10_cutIntoPieces_26 rfl rfl rfl ?_
  refine sn_gI (k := 4) (pc' := 30) ci_11 rfl (Or.inl tw72) dX10_cutIntoPieces_27 rfl (fun v1 => ?_)
  refine sn_ic_ge (pt := 66) (pf := 33) dX10_cutIntoPieces_30 rfl rfl ?_ ?_
  · exact sn_weak (le_s (le_n (le_n le_e))) (s_X10_cutIntoPieces_66 G this)
  · refine sn_aload_n (v := (some this)) (pc' := 34) dX10_cutIntoPieces_33 rfl rfl rfl ?_
    refine sn_iload_n (v := x2) (pc' := 35) dX10_cutIntoPieces_34 rfl rfl rfl ?_
    refine sn_cV (r := (some this)) (st := []) (As := [.int x2]) (st2 := (fun v => .int v :: [])) (pc' := 38) ci_11 (fun t => c_X10_widthAt G t x2) cw_X10_widthAt rfl rfl tw368 pw3 tw370 rfl rfl cat_nil rfl (fun _ => rfl) dX10_cutIntoPieces_35 rfl (fun v2 => ?_)
    refine sn_istore_n (v := v2) (L' := [some (va_rf (some this)), some (.int v2), some (.int x2)]) (pc' := 39) dX10_cutIntoPieces_38 rfl rfl rfl rfl ?_
    refine sn_aload_n (v := (some this)) (pc' := 40) dX10_cutIntoPieces_39 rfl rfl rfl ?_
    refine sn_iload_n (v := x2) (pc' := 41) dX10_cutIntoPieces_40 rfl rfl rfl ?_
    refine sn_cV (r := (some this)) (st := []) (As := [.int x2]) (st2 := (fun v => .int v :: [])) (pc' := 44) ci_11 (fun t => c_X10_byteAt G t x2) cw_X10_byteAt rfl rfl tw372 pw4 tw374 rfl rfl cat_nil rfl (fun _ => rfl) dX10_cutIntoPieces_41 rfl (fun v3 => ?_)
    refine sn_bipush (v := (32 : Int32)) (pc' := 46) dX10_cutIntoPieces_44 rfl (by decide) ?_
    refine sn_ic_eq (pt := 55) (pf := 49) dX10_cutIntoPieces_46 rfl rfl ?_ ?_
    · exact sn_weak (le_s (le_s (le_s le_e))) (s_X10_cutIntoPieces_55 G k25 hk25 this v2 x2)
    · refine sn_aload_n (v := (some this)) (pc' := 50) dX10_cutIntoPieces_49 rfl rfl rfl ?_
      refine sn_iload_n (v := x2) (pc' := 51) dX10_cutIntoPieces_50 rfl rfl rfl ?_
      refine sn_iload_n (v := v2) (pc' := 52) dX10_cutIntoPieces_51 rfl rfl rfl ?_
      refine sn_cV (r := (some this)) (st := []) (As := [.int x2, .int v2]) (st2 := (fun _ => [])) (pc' := 55) ci_11 (fun t => c_X10_addPiece G t x2 v2) cw_X10_addPiece rfl rfl tw382 pw5 tw384 rfl rfl cat_nil rfl (fun _ => rfl) dX10_cutIntoPieces_52 rfl (fun _ => ?_)
      exact sn_weak (le_s (le_s (le_s le_e))) (s_X10_cutIntoPieces_55 G k25 hk25 this v2 x2)
set_option maxRecDepth 100000 in
set_option maxHeartbeats 4000000 in
theorem s_X10_cutIntoPieces_25 (G : GG)   : ∀ (n : Nat) (this : Nat) (x2 : Int32), Sn G yX10_cutIntoPieces cX10_cutIntoPieces 3 none 6 142 (fun _ : Unit => none) (X10_cutIntoPieces_25  n this x2) 25 [some (va_rf (some this)), none, some (.int x2)] [] := by
  intro n
  induction n with
  | zero => intro this x2; exact sn_mf
  | succ n ih => intro this x2; exact s_X10_cutIntoPieces_25_st G   (X10_cutIntoPieces_25  n) ih this x2
set_option maxRecDepth 100000 in
set_option maxHeartbeats 4000000 in
theorem s_X10_cutIntoPieces (G : GG) (this : Nat) : Sn G yX10_cutIntoPieces cX10_cutIntoPieces 3 none 6 142 (fun _ : Unit => none) (X10_cutIntoPieces this) 0 [some (va_rf (some this)), none, none] [] := by
  unfold X10_cutIntoPieces
  refine sn_aload_n (v := (some this)) (pc' := 1) dX10_cutIntoPieces_0 rfl rfl rfl ?_
  refine sn_gR (k := 1) (pc' := 4) ci_11 rfl (Or.inl tw66) dX10_cutIntoPieces_1 rfl (fun v1 => ?_)
  refine sn_cV (r := v1) (st := []) (As := []) (st2 := (fun _ => [])) (pc' := 7) ci_9 (fun t => c_X8_clear G t ) cw_X8_clear rfl rfl tw367 tw356 tw355 rfl rfl cat_nil rfl (fun _ => rfl) dX10_cutIntoPieces_4 rfl (fun _ => ?_)
  refine sn_aload_n (v := (some this)) (pc' := 8) dX10_cutIntoPieces_7 rfl rfl rfl ?_
  refine sn_gR (k := 2) (pc' := 11) ci_11 rfl (Or.inl tw68) dX10_cutIntoPieces_8 rfl (fun v2 => ?_)
  refine sn_cV (r := v2) (st := []) (As := []) (st2 := (fun _ => [])) (pc' := 14) ci_9 (fun t => c_X8_clear G t ) cw_X8_clear rfl rfl tw367 tw356 tw355 rfl rfl cat_nil rfl (fun _ => rfl) dX10_cutIntoPieces_11 rfl (fun _ => ?_)
  refine sn_aload_n (v := (some this)) (pc' := 15) dX10_cutIntoPieces_14 rfl rfl rfl ?_
  refine sn_gR (k := 3) (pc' := 18) ci_11 rfl (Or.inl tw70) dX10_cutIntoPieces_15 rfl (fun v3 => ?_)
  refine sn_cV (r := v3) (st := []) (As := []) (st2 := (fun _ => [])) (pc' := 21) ci_9 (fun t => c_X8_clear G t ) cw_X8_clear rfl rfl tw367 tw356 tw355 rfl rfl cat_nil rfl (fun _ => rfl) dX10_cutIntoPieces_18 rfl (fun _ => ?_)
  refine sn_iconst (v := (1 : Int32)) (pc' := 22) dX10_cutIntoPieces_21 rfl (by decide) ?_
  refine sn_istore_n (v := (1 : Int32)) (L' := [some (va_rf (some this)), some (.int (1 : Int32)), none]) (pc' := 23) dX10_cutIntoPieces_22 rfl rfl rfl rfl ?_
  refine sn_iconst (v := (0 : Int32)) (pc' := 24) dX10_cutIntoPieces_23 rfl (by decide) ?_
  refine sn_istore_n (v := (0 : Int32)) (L' := [some (va_rf (some this)), some (.int (1 : Int32)), some (.int (0 : Int32))]) (pc' := 25) dX10_cutIntoPieces_24 rfl rfl rfl rfl ?_
  exact sn_weak (le_s (le_n (le_s le_e))) (s_X10_cutIntoPieces_25 G LFU this (0 : Int32))
theorem c_X10_cutIntoPieces (G : GG) (this : Nat) : Cal G yX10_cutIntoPieces cX10_cutIntoPieces 3 none 6 142 (fun _ : Unit => none) (X10_cutIntoPieces this) [.ref this] :=
  Cal.of (by decide) (cat_t cat_nil) rfl (sn_weak (le_s (le_z (le_z le_e))) (s_X10_cutIntoPieces G this))
theorem cw_X10_cutIntoPieces : CW yX10_cutIntoPieces cX10_cutIntoPieces 3 none 0 := ⟨tw366, tw2, by decide, by decide +kernel⟩
/-! X7_begin -/
theorem dX7_begin_0 : decode cX7_begin 0 = .ok (.aload_n 0, 1) := by decide +kernel
theorem dX7_begin_1 : decode cX7_begin 1 = .ok (.iconst 0, 1) := by decide +kernel
theorem dX7_begin_2 : decode cX7_begin 2 = .ok (.putfield 53, 3) := by decide +kernel
theorem dX7_begin_5 : decode cX7_begin 5 = .ok (.aload_n 0, 1) := by decide +kernel
theorem dX7_begin_6 : decode cX7_begin 6 = .ok (.bipush (-9), 2) := by decide +kernel
theorem dX7_begin_8 : decode cX7_begin 8 = .ok (.putfield 25, 3) := by decide +kernel
theorem dX7_begin_11 : decode cX7_begin 11 = .ok (.aload_n 0, 1) := by decide +kernel
theorem dX7_begin_12 : decode cX7_begin 12 = .ok (.getfield 12, 3) := by decide +kernel
theorem dX7_begin_15 : decode cX7_begin 15 = .ok (.invokevirtual 56, 3) := by decide +kernel
theorem dX7_begin_18 : decode cX7_begin 18 = .ok (.aload_n 0, 1) := by decide +kernel
theorem dX7_begin_19 : decode cX7_begin 19 = .ok (.getfield 21, 3) := by decide +kernel
theorem dX7_begin_22 : decode cX7_begin 22 = .ok (.invokevirtual 59, 3) := by decide +kernel
theorem dX7_begin_25 : decode cX7_begin 25 = .ok (.aload_n 0, 1) := by decide +kernel
theorem dX7_begin_26 : decode cX7_begin 26 = .ok (.getfield 29, 3) := by decide +kernel
theorem dX7_begin_29 : decode cX7_begin 29 = .ok (.invokevirtual 60, 3) := by decide +kernel
theorem dX7_begin_32 : decode cX7_begin 32 = .ok (.return_, 1) := by decide +kernel
def X7_begin (this : Nat) : MM Unit :=
  mb (pI 8 (some this) 3 (0 : Int32)) fun _ =>
  mb (pI 8 (some this) 5 (-9 : Int32)) fun _ =>
  mb (gR 8 (some this) 1) fun v1 =>
  mb (wc 5 v1 fun t => X4_clear t ) fun _ =>
  mb (gR 8 (some this) 2) fun v2 =>
  mb (wc 6 v2 fun t => X5_clear t ) fun _ =>
  mb (gR 8 (some this) 0) fun v3 =>
  mb (wc 11 v3 fun t => X10_cutIntoPieces t ) fun _ =>
  mr ()
set_option maxRecDepth 100000 in
set_option maxHeartbeats 4000000 in
theorem s_X7_begin (G : GG) (this : Nat) : Sn G yX7_begin cX7_begin 1 none 7 164 (fun _ : Unit => none) (X7_begin this) 0 [some (va_rf (some this))] [] := by
  unfold X7_begin
  refine sn_aload_n (v := (some this)) (pc' := 1) dX7_begin_0 rfl rfl rfl ?_
  refine sn_iconst (v := (0 : Int32)) (pc' := 2) dX7_begin_1 rfl (by decide) ?_
  refine sn_pI (k := 3) (pc' := 5) ci_8 rfl (Or.inl tw163) (Or.inl rfl) rfl dX7_begin_2 rfl (fun _ => ?_)
  refine sn_aload_n (v := (some this)) (pc' := 6) dX7_begin_5 rfl rfl rfl ?_
  refine sn_bipush (v := (-9 : Int32)) (pc' := 8) dX7_begin_6 rfl (by decide) ?_
  refine sn_pI (k := 5) (pc' := 11) ci_8 rfl (Or.inl tw165) (Or.inl rfl) rfl dX7_begin_8 rfl (fun _ => ?_)
  refine sn_aload_n (v := (some this)) (pc' := 12) dX7_begin_11 rfl rfl rfl ?_
  refine sn_gR (k := 1) (pc' := 15) ci_8 rfl (Or.inl tw158) dX7_begin_12 rfl (fun v1 => ?_)
  refine sn_cV (r := v1) (st := []) (As := []) (st2 := (fun _ => [])) (pc' := 18) ci_5 (fun t => c_X4_clear G t ) cw_X4_clear rfl rfl tw350 tw352 tw351 rfl rfl cat_nil rfl (fun _ => rfl) dX7_begin_15 rfl (fun _ => ?_)
  refine sn_aload_n (v := (some this)) (pc' := 19) dX7_begin_18 rfl rfl rfl ?_
  refine sn_gR (k := 2) (pc' := 22) ci_8 rfl (Or.inl tw160) dX7_begin_19 rfl (fun v2 => ?_)
  refine sn_cV (r := v2) (st := []) (As := []) (st2 := (fun _ => [])) (pc' := 25) ci_6 (fun t => c_X5_clear G t ) cw_X5_clear rfl rfl tw358 tw360 tw359 rfl rfl cat_nil rfl (fun _ => rfl) dX7_begin_22 rfl (fun _ => ?_)
  refine sn_aload_n (v := (some this)) (pc' := 26) dX7_begin_25 rfl rfl rfl ?_
  refine sn_gR (k := 0) (pc' := 29) ci_8 rfl (Or.inl tw157) dX7_begin_26 rfl (fun v3 => ?_)
  refine sn_cV (r := v3) (st := []) (As := []) (st2 := (fun _ => [])) (pc' := 32) ci_11 (fun t => c_X10_cutIntoPieces G t ) cw_X10_cutIntoPieces rfl rfl tw363 tw365 tw364 rfl rfl cat_nil rfl (fun _ => rfl) dX7_begin_29 rfl (fun _ => ?_)
  exact sn_vret dX7_begin_32 rfl
theorem c_X7_begin (G : GG) (this : Nat) : Cal G yX7_begin cX7_begin 1 none 7 164 (fun _ : Unit => none) (X7_begin this) [.ref this] :=
  Cal.of (by decide) (cat_t cat_nil) rfl (sn_weak (le_s le_e) (s_X7_begin G this))
theorem cw_X7_begin : CW yX7_begin cX7_begin 1 none 0 := ⟨tw349, tw5, by decide, by decide +kernel⟩
/-! X8_get -/
theorem dX8_get_0 : decode cX8_get 0 = .ok (.iload_n 1, 1) := by decide +kernel
theorem dX8_get_1 : decode cX8_get 1 = .ok (.ifCond .lt 11, 3) := by decide +kernel
theorem dX8_get_4 : decode cX8_get 4 = .ok (.iload_n 1, 1) := by decide +kernel
theorem dX8_get_5 : decode cX8_get 5 = .ok (.aload_n 0, 1) := by decide +kernel
theorem dX8_get_6 : decode cX8_get 6 = .ok (.getfield 21, 3) := by decide +kernel
theorem dX8_get_9 : decode cX8_get 9 = .ok (.if_icmp .lt 7, 3) := by decide +kernel
theorem dX8_get_12 : decode cX8_get 12 = .ok (.iconst (-1), 1) := by decide +kernel
theorem dX8_get_13 : decode cX8_get 13 = .ok (.goto 9, 3) := by decide +kernel
theorem dX8_get_16 : decode cX8_get 16 = .ok (.aload_n 0, 1) := by decide +kernel
theorem dX8_get_17 : decode cX8_get 17 = .ok (.getfield 15, 3) := by decide +kernel
theorem dX8_get_20 : decode cX8_get 20 = .ok (.iload_n 1, 1) := by decide +kernel
theorem dX8_get_21 : decode cX8_get 21 = .ok (.iaload, 1) := by decide +kernel
theorem dX8_get_22 : decode cX8_get 22 = .ok (.ireturn, 1) := by decide +kernel
def X8_get (this : Nat) (a1 : Int32) : MM Int32 :=
  if a1 < 0 then (mr (-1 : Int32)) else (mb (gI 9 (some this) 1) fun v1 =>
  if a1 < v1 then (mb (gR 9 (some this) 0) fun v2 =>
  mb (aI v2 a1) fun v3 =>
  mr v3) else (mr (-1 : Int32)))
set_option maxRecDepth 100000 in
set_option maxHeartbeats 4000000 in
theorem s_X8_get (G : GG) (this : Nat) (a1 : Int32) : Sn G yX8_get cX8_get 2 (some FieldType.int) 0 0 (fun v : Int32 => some (.int v)) (X8_get this a1) 0 [some (va_rf (some this)), some (.int a1)] [] := by
  unfold X8_get
  refine sn_iload_n (v := a1) (pc' := 1) dX8_get_0 rfl rfl rfl ?_
  refine sn_if_lt (pt := 12) (pf := 4) dX8_get_1 rfl rfl ?_ ?_
  · refine sn_iconst (v := (-1 : Int32)) (pc' := 13) dX8_get_12 rfl (by decide) ?_
    refine sn_goto (pc' := 22) dX8_get_13 rfl ?_
    exact sn_iret dX8_get_22 rfl rfl
  · refine sn_iload_n (v := a1) (pc' := 5) dX8_get_4 rfl rfl rfl ?_
    refine sn_aload_n (v := (some this)) (pc' := 6) dX8_get_5 rfl rfl rfl ?_
    refine sn_gI (k := 1) (pc' := 9) ci_9 rfl (Or.inl tw51) dX8_get_6 rfl (fun v1 => ?_)
    refine sn_ic_lt (pt := 16) (pf := 12) dX8_get_9 rfl rfl ?_ ?_
    · refine sn_aload_n (v := (some this)) (pc' := 17) dX8_get_16 rfl rfl rfl ?_
      refine sn_gR (k := 0) (pc' := 20) ci_9 rfl (Or.inl tw50) dX8_get_17 rfl (fun v2 => ?_)
      refine sn_iload_n (v := a1) (pc' := 21) dX8_get_20 rfl rfl rfl ?_
      refine sn_aI (pc' := 22) dX8_get_21 rfl (fun v3 => ?_)
      exact sn_iret dX8_get_22 rfl rfl
    · refine sn_iconst (v := (-1 : Int32)) (pc' := 13) dX8_get_12 rfl (by decide) ?_
      refine sn_goto (pc' := 22) dX8_get_13 rfl ?_
      exact sn_iret dX8_get_22 rfl rfl
theorem c_X8_get (G : GG) (this : Nat) (a1 : Int32) : Cal G yX8_get cX8_get 2 (some FieldType.int) 0 0 (fun v : Int32 => some (.int v)) (X8_get this a1) [.ref this, .int a1] :=
  Cal.of (by decide) (cat_t (cat_i cat_nil)) rfl (sn_weak (le_s (le_s le_e)) (s_X8_get G this a1))
theorem cw_X8_get : CW yX8_get cX8_get 2 (some FieldType.int) 1 := ⟨tw498, tw3, by decide, by decide +kernel⟩
/-! X7_takes -/
theorem dX7_takes_0 : decode cX7_takes 0 = .ok (.aload_n 0, 1) := by decide +kernel
theorem dX7_takes_1 : decode cX7_takes 1 = .ok (.getfield 29, 3) := by decide +kernel
theorem dX7_takes_4 : decode cX7_takes 4 = .ok (.getfield 65, 3) := by decide +kernel
theorem dX7_takes_7 : decode cX7_takes 7 = .ok (.aload_n 0, 1) := by decide +kernel
theorem dX7_takes_8 : decode cX7_takes 8 = .ok (.getfield 53, 3) := by decide +kernel
theorem dX7_takes_11 : decode cX7_takes 11 = .ok (.invokevirtual 69, 3) := by decide +kernel
theorem dX7_takes_14 : decode cX7_takes 14 = .ok (.iload_n 1, 1) := by decide +kernel
theorem dX7_takes_15 : decode cX7_takes 15 = .ok (.if_icmp .eq 23, 3) := by decide +kernel
theorem dX7_takes_18 : decode cX7_takes 18 = .ok (.aload_n 0, 1) := by decide +kernel
theorem dX7_takes_19 : decode cX7_takes 19 = .ok (.aload_n 0, 1) := by decide +kernel
theorem dX7_takes_20 : decode cX7_takes 20 = .ok (.getfield 29, 3) := by decide +kernel
theorem dX7_takes_23 : decode cX7_takes 23 = .ok (.getfield 75, 3) := by decide +kernel
theorem dX7_takes_26 : decode cX7_takes 26 = .ok (.aload_n 0, 1) := by decide +kernel
theorem dX7_takes_27 : decode cX7_takes 27 = .ok (.getfield 53, 3) := by decide +kernel
theorem dX7_takes_30 : decode cX7_takes 30 = .ok (.invokevirtual 69, 3) := by decide +kernel
theorem dX7_takes_33 : decode cX7_takes 33 = .ok (.putfield 25, 3) := by decide +kernel
theorem dX7_takes_36 : decode cX7_takes 36 = .ok (.iconst 0, 1) := by decide +kernel
theorem dX7_takes_37 : decode cX7_takes 37 = .ok (.ireturn, 1) := by decide +kernel
theorem dX7_takes_38 : decode cX7_takes 38 = .ok (.aload_n 0, 1) := by decide +kernel
theorem dX7_takes_39 : decode cX7_takes 39 = .ok (.aload_n 0, 1) := by decide +kernel
theorem dX7_takes_40 : decode cX7_takes 40 = .ok (.getfield 29, 3) := by decide +kernel
theorem dX7_takes_43 : decode cX7_takes 43 = .ok (.getfield 78, 3) := by decide +kernel
theorem dX7_takes_46 : decode cX7_takes 46 = .ok (.aload_n 0, 1) := by decide +kernel
theorem dX7_takes_47 : decode cX7_takes 47 = .ok (.getfield 53, 3) := by decide +kernel
theorem dX7_takes_50 : decode cX7_takes 50 = .ok (.invokevirtual 69, 3) := by decide +kernel
theorem dX7_takes_53 : decode cX7_takes 53 = .ok (.putfield 81, 3) := by decide +kernel
theorem dX7_takes_56 : decode cX7_takes 56 = .ok (.aload_n 0, 1) := by decide +kernel
theorem dX7_takes_57 : decode cX7_takes 57 = .ok (.dup, 1) := by decide +kernel
theorem dX7_takes_58 : decode cX7_takes 58 = .ok (.getfield 53, 3) := by decide +kernel
theorem dX7_takes_61 : decode cX7_takes 61 = .ok (.iconst 1, 1) := by decide +kernel
theorem dX7_takes_62 : decode cX7_takes 62 = .ok (.iadd, 1) := by decide +kernel
theorem dX7_takes_63 : decode cX7_takes 63 = .ok (.putfield 53, 3) := by decide +kernel
theorem dX7_takes_66 : decode cX7_takes 66 = .ok (.iconst 1, 1) := by decide +kernel
theorem dX7_takes_67 : decode cX7_takes 67 = .ok (.ireturn, 1) := by decide +kernel
def X7_takes (this : Nat) (a1 : Int32) : MM Int32 :=
  mb (gR 8 (some this) 0) fun v1 =>
  mb (gR 11 v1 1) fun v2 =>
  mb (gI 8 (some this) 3) fun v3 =>
  mb (wc 9 v2 fun t => X8_get t v3) fun v4 =>
  if v4 = a1 then (mb (gR 8 (some this) 0) fun v5 =>
  mb (gR 11 v5 3) fun v6 =>
  mb (gI 8 (some this) 3) fun v7 =>
  mb (wc 9 v6 fun t => X8_get t v7) fun v8 =>
  mb (pI 8 (some this) 4 v8) fun _ =>
  mb (gI 8 (some this) 3) fun v9 =>
  mb (pI 8 (some this) 3 (v9 + (1 : Int32))) fun _ =>
  mr (1 : Int32)) else (mb (gR 8 (some this) 0) fun v10 =>
  mb (gR 11 v10 2) fun v11 =>
  mb (gI 8 (some this) 3) fun v12 =>
  mb (wc 9 v11 fun t => X8_get t v12) fun v13 =>
  mb (pI 8 (some this) 5 v13) fun _ =>
  mr (0 : Int32))
set_option maxRecDepth 100000 in
set_option maxHeartbeats 4000000 in
theorem s_X7_takes (G : GG) (this : Nat) (a1 : Int32) : Sn G yX7_takes cX7_takes 2 (some FieldType.boolean) 1 21 (fun v : Int32 => some (.int v)) (X7_takes this a1) 0 [some (va_rf (some this)), some (.int a1)] [] := by
  unfold X7_takes
  refine sn_aload_n (v := (some this)) (pc' := 1) dX7_takes_0 rfl rfl rfl ?_
  refine sn_gR (k := 0) (pc' := 4) ci_8 rfl (Or.inl tw157) dX7_takes_1 rfl (fun v1 => ?_)
  refine sn_gR (k := 1) (pc' := 7) ci_11 rfl (Or.inr ⟨_, nw67⟩) dX7_takes_4 rfl (fun v2 => ?_)
  refine sn_aload_n (v := (some this)) (pc' := 8) dX7_takes_7 rfl rfl rfl ?_
  refine sn_gI (k := 3) (pc' := 11) ci_8 rfl (Or.inl tw163) dX7_takes_8 rfl (fun v3 => ?_)
  refine sn_cV (r := v2) (st := []) (As := [.int v3]) (st2 := (fun v => .int v :: [])) (pc' := 14) ci_9 (fun t => c_X8_get G t v3) cw_X8_get rfl rfl tw495 tw497 tw496 rfl rfl cat_nil rfl (fun _ => rfl) dX7_takes_11 rfl (fun v4 => ?_)
  refine sn_iload_n (v := a1) (pc' := 15) dX7_takes_14 rfl rfl rfl ?_
  refine sn_ic_eq (pt := 38) (pf := 18) dX7_takes_15 rfl rfl ?_ ?_
  · refine sn_aload_n (v := (some this)) (pc' := 39) dX7_takes_38 rfl rfl rfl ?_
    refine sn_aload_n (v := (some this)) (pc' := 40) dX7_takes_39 rfl rfl rfl ?_
    refine sn_gR (k := 0) (pc' := 43) ci_8 rfl (Or.inl tw157) dX7_takes_40 rfl (fun v5 => ?_)
    refine sn_gR (k := 3) (pc' := 46) ci_11 rfl (Or.inr ⟨_, nw71⟩) dX7_takes_43 rfl (fun v6 => ?_)
    refine sn_aload_n (v := (some this)) (pc' := 47) dX7_takes_46 rfl rfl rfl ?_
    refine sn_gI (k := 3) (pc' := 50) ci_8 rfl (Or.inl tw163) dX7_takes_47 rfl (fun v7 => ?_)
    refine sn_cV (r := v6) (st := [va_rf (some this)]) (As := [.int v7]) (st2 := (fun v => .int v :: [va_rf (some this)])) (pc' := 53) ci_9 (fun t => c_X8_get G t v7) cw_X8_get rfl rfl tw495 tw497 tw496 rfl rfl (cat_q cat_nil) rfl (fun _ => rfl) dX7_takes_50 rfl (fun v8 => ?_)
    refine sn_pI (k := 4) (pc' := 56) ci_8 rfl (Or.inl tw164) (Or.inl rfl) rfl dX7_takes_53 rfl (fun _ => ?_)
    refine sn_aload_n (v := (some this)) (pc' := 57) dX7_takes_56 rfl rfl rfl ?_
    refine sn_dup (pc' := 58) dX7_takes_57 rfl (cat_rf _) ?_
    refine sn_gI (k := 3) (pc' := 61) ci_8 rfl (Or.inl tw163) dX7_takes_58 rfl (fun v9 => ?_)
    refine sn_iconst (v := (1 : Int32)) (pc' := 62) dX7_takes_61 rfl (by decide) ?_
    refine sn_iadd (pc' := 63) dX7_takes_62 rfl ?_
    refine sn_pI (k := 3) (pc' := 66) ci_8 rfl (Or.inl tw163) (Or.inl rfl) rfl dX7_takes_63 rfl (fun _ => ?_)
    refine sn_iconst (v := (1 : Int32)) (pc' := 67) dX7_takes_66 rfl (by decide) ?_
    exact sn_iret dX7_takes_67 rfl (by decide)
  · refine sn_aload_n (v := (some this)) (pc' := 19) dX7_takes_18 rfl rfl rfl ?_
    refine sn_aload_n (v := (some this)) (pc' := 20) dX7_takes_19 rfl rfl rfl ?_
    refine sn_gR (k := 0) (pc' := 23) ci_8 rfl (Or.inl tw157) dX7_takes_20 rfl (fun v10 => ?_)
    refine sn_gR (k := 2) (pc' := 26) ci_11 rfl (Or.inr ⟨_, nw69⟩) dX7_takes_23 rfl (fun v11 => ?_)
    refine sn_aload_n (v := (some this)) (pc' := 27) dX7_takes_26 rfl rfl rfl ?_
    refine sn_gI (k := 3) (pc' := 30) ci_8 rfl (Or.inl tw163) dX7_takes_27 rfl (fun v12 => ?_)
    refine sn_cV (r := v11) (st := [va_rf (some this)]) (As := [.int v12]) (st2 := (fun v => .int v :: [va_rf (some this)])) (pc' := 33) ci_9 (fun t => c_X8_get G t v12) cw_X8_get rfl rfl tw495 tw497 tw496 rfl rfl (cat_q cat_nil) rfl (fun _ => rfl) dX7_takes_30 rfl (fun v13 => ?_)
    refine sn_pI (k := 5) (pc' := 36) ci_8 rfl (Or.inl tw165) (Or.inl rfl) rfl dX7_takes_33 rfl (fun _ => ?_)
    refine sn_iconst (v := (0 : Int32)) (pc' := 37) dX7_takes_36 rfl (by decide) ?_
    exact sn_iret dX7_takes_37 rfl (by decide)
theorem c_X7_takes (G : GG) (this : Nat) (a1 : Int32) : Cal G yX7_takes cX7_takes 2 (some FieldType.boolean) 1 21 (fun v : Int32 => some (.int v)) (X7_takes this a1) [.ref this, .int a1] :=
  Cal.of (by decide) (cat_t (cat_i cat_nil)) rfl (sn_weak (le_s (le_s le_e)) (s_X7_takes G this a1))
theorem cw_X7_takes : CW yX7_takes cX7_takes 2 (some FieldType.boolean) 1 := ⟨tw494, tw5, by decide, by decide +kernel⟩
/-! X7_skips -/
theorem dX7_skips_0 : decode cX7_skips 0 = .ok (.aload_n 0, 1) := by decide +kernel
theorem dX7_skips_1 : decode cX7_skips 1 = .ok (.getfield 29, 3) := by decide +kernel
theorem dX7_skips_4 : decode cX7_skips 4 = .ok (.getfield 65, 3) := by decide +kernel
theorem dX7_skips_7 : decode cX7_skips 7 = .ok (.aload_n 0, 1) := by decide +kernel
theorem dX7_skips_8 : decode cX7_skips 8 = .ok (.getfield 53, 3) := by decide +kernel
theorem dX7_skips_11 : decode cX7_skips 11 = .ok (.invokevirtual 69, 3) := by decide +kernel
theorem dX7_skips_14 : decode cX7_skips 14 = .ok (.iload_n 1, 1) := by decide +kernel
theorem dX7_skips_15 : decode cX7_skips 15 = .ok (.if_icmp .eq 5, 3) := by decide +kernel
theorem dX7_skips_18 : decode cX7_skips 18 = .ok (.iconst 0, 1) := by decide +kernel
theorem dX7_skips_19 : decode cX7_skips 19 = .ok (.ireturn, 1) := by decide +kernel
theorem dX7_skips_20 : decode cX7_skips 20 = .ok (.aload_n 0, 1) := by decide +kernel
theorem dX7_skips_21 : decode cX7_skips 21 = .ok (.dup, 1) := by decide +kernel
theorem dX7_skips_22 : decode cX7_skips 22 = .ok (.getfield 53, 3) := by decide +kernel
theorem dX7_skips_25 : decode cX7_skips 25 = .ok (.iconst 1, 1) := by decide +kernel
theorem dX7_skips_26 : decode cX7_skips 26 = .ok (.iadd, 1) := by decide +kernel
theorem dX7_skips_27 : decode cX7_skips 27 = .ok (.putfield 53, 3) := by decide +kernel
theorem dX7_skips_30 : decode cX7_skips 30 = .ok (.iconst 1, 1) := by decide +kernel
theorem dX7_skips_31 : decode cX7_skips 31 = .ok (.ireturn, 1) := by decide +kernel
def X7_skips (this : Nat) (a1 : Int32) : MM Int32 :=
  mb (gR 8 (some this) 0) fun v1 =>
  mb (gR 11 v1 1) fun v2 =>
  mb (gI 8 (some this) 3) fun v3 =>
  mb (wc 9 v2 fun t => X8_get t v3) fun v4 =>
  if v4 = a1 then (mb (gI 8 (some this) 3) fun v5 =>
  mb (pI 8 (some this) 3 (v5 + (1 : Int32))) fun _ =>
  mr (1 : Int32)) else (mr (0 : Int32))
set_option maxRecDepth 100000 in
set_option maxHeartbeats 4000000 in
theorem s_X7_skips (G : GG) (this : Nat) (a1 : Int32) : Sn G yX7_skips cX7_skips 2 (some FieldType.boolean) 1 21 (fun v : Int32 => some (.int v)) (X7_skips this a1) 0 [some (va_rf (some this)), some (.int a1)] [] := by
  unfold X7_skips
  refine sn_aload_n (v := (some this)) (pc' := 1) dX7_skips_0 rfl rfl rfl ?_
  refine sn_gR (k := 0) (pc' := 4) ci_8 rfl (Or.inl tw157) dX7_skips_1 rfl (fun v1 => ?_)
  refine sn_gR (k := 1) (pc' := 7) ci_11 rfl (Or.inr ⟨_, nw67⟩) dX7_skips_4 rfl (fun v2 => ?_)
  refine sn_aload_n (v := (some this)) (pc' := 8) dX7_skips_7 rfl rfl rfl ?_
  refine sn_gI (k := 3) (pc' := 11) ci_8 rfl (Or.inl tw163) dX7_skips_8 rfl (fun v3 => ?_)
  refine sn_cV (r := v2) (st := []) (As := [.int v3]) (st2 := (fun v => .int v :: [])) (pc' := 14) ci_9 (fun t => c_X8_get G t v3) cw_X8_get rfl rfl tw495 tw497 tw496 rfl rfl cat_nil rfl (fun _ => rfl) dX7_skips_11 rfl (fun v4 => ?_)
  refine sn_iload_n (v := a1) (pc' := 15) dX7_skips_14 rfl rfl rfl ?_
  refine sn_ic_eq (pt := 20) (pf := 18) dX7_skips_15 rfl rfl ?_ ?_
  · refine sn_aload_n (v := (some this)) (pc' := 21) dX7_skips_20 rfl rfl rfl ?_
    refine sn_dup (pc' := 22) dX7_skips_21 rfl (cat_rf _) ?_
    refine sn_gI (k := 3) (pc' := 25) ci_8 rfl (Or.inl tw163) dX7_skips_22 rfl (fun v5 => ?_)
    refine sn_iconst (v := (1 : Int32)) (pc' := 26) dX7_skips_25 rfl (by decide) ?_
    refine sn_iadd (pc' := 27) dX7_skips_26 rfl ?_
    refine sn_pI (k := 3) (pc' := 30) ci_8 rfl (Or.inl tw163) (Or.inl rfl) rfl dX7_skips_27 rfl (fun _ => ?_)
    refine sn_iconst (v := (1 : Int32)) (pc' := 31) dX7_skips_30 rfl (by decide) ?_
    exact sn_iret dX7_skips_31 rfl (by decide)
  · refine sn_iconst (v := (0 : Int32)) (pc' := 19) dX7_skips_18 rfl (by decide) ?_
    exact sn_iret dX7_skips_19 rfl (by decide)
theorem c_X7_skips (G : GG) (this : Nat) (a1 : Int32) : Cal G yX7_skips cX7_skips 2 (some FieldType.boolean) 1 21 (fun v : Int32 => some (.int v)) (X7_skips this a1) [.ref this, .int a1] :=
  Cal.of (by decide) (cat_t (cat_i cat_nil)) rfl (sn_weak (le_s (le_s le_e)) (s_X7_skips G this a1))
theorem cw_X7_skips : CW yX7_skips cX7_skips 2 (some FieldType.boolean) 1 := ⟨tw503, tw5, by decide, by decide +kernel⟩
/-! X7_readsChange -/
theorem dX7_readsChange_0 : decode cX7_readsChange 0 = .ok (.aload_n 0, 1) := by decide +kernel
theorem dX7_readsChange_1 : decode cX7_readsChange 1 = .ok (.bipush 45, 2) := by decide +kernel
theorem dX7_readsChange_3 : decode cX7_readsChange 3 = .ok (.invokevirtual 40, 3) := by decide +kernel
theorem dX7_readsChange_6 : decode cX7_readsChange 6 = .ok (.ifCond .eq 8, 3) := by decide +kernel
theorem dX7_readsChange_9 : decode cX7_readsChange 9 = .ok (.bipush 45, 2) := by decide +kernel
theorem dX7_readsChange_11 : decode cX7_readsChange 11 = .ok (.goto 19, 3) := by decide +kernel
theorem dX7_readsChange_14 : decode cX7_readsChange 14 = .ok (.aload_n 0, 1) := by decide +kernel
theorem dX7_readsChange_15 : decode cX7_readsChange 15 = .ok (.bipush 61, 2) := by decide +kernel
theorem dX7_readsChange_17 : decode cX7_readsChange 17 = .ok (.invokevirtual 40, 3) := by decide +kernel
theorem dX7_readsChange_20 : decode cX7_readsChange 20 = .ok (.ifCond .eq 8, 3) := by decide +kernel
theorem dX7_readsChange_23 : decode cX7_readsChange 23 = .ok (.bipush 61, 2) := by decide +kernel
theorem dX7_readsChange_25 : decode cX7_readsChange 25 = .ok (.goto 5, 3) := by decide +kernel
theorem dX7_readsChange_28 : decode cX7_readsChange 28 = .ok (.bipush 43, 2) := by decide +kernel
theorem dX7_readsChange_30 : decode cX7_readsChange 30 = .ok (.istore_n 1, 1) := by decide +kernel
theorem dX7_readsChange_31 : decode cX7_readsChange 31 = .ok (.aload_n 0, 1) := by decide +kernel
theorem dX7_readsChange_32 : decode cX7_readsChange 32 = .ok (.iconst 1, 1) := by decide +kernel
theorem dX7_readsChange_33 : decode cX7_readsChange 33 = .ok (.invokevirtual 47, 3) := by decide +kernel
theorem dX7_readsChange_36 : decode cX7_readsChange 36 = .ok (.ifCond .ne 5, 3) := by decide +kernel
theorem dX7_readsChange_39 : decode cX7_readsChange 39 = .ok (.iconst 0, 1) := by decide +kernel
theorem dX7_readsChange_40 : decode cX7_readsChange 40 = .ok (.ireturn, 1) := by decide +kernel
theorem dX7_readsChange_41 : decode cX7_readsChange 41 = .ok (.aload_n 0, 1) := by decide +kernel
theorem dX7_readsChange_42 : decode cX7_readsChange 42 = .ok (.getfield 21, 3) := by decide +kernel
theorem dX7_readsChange_45 : decode cX7_readsChange 45 = .ok (.getfield 109, 3) := by decide +kernel
theorem dX7_readsChange_48 : decode cX7_readsChange 48 = .ok (.aload_n 0, 1) := by decide +kernel
theorem dX7_readsChange_49 : decode cX7_readsChange 49 = .ok (.getfield 81, 3) := by decide +kernel
theorem dX7_readsChange_52 : decode cX7_readsChange 52 = .ok (.invokevirtual 87, 3) := by decide +kernel
theorem dX7_readsChange_55 : decode cX7_readsChange 55 = .ok (.pop, 1) := by decide +kernel
theorem dX7_readsChange_56 : decode cX7_readsChange 56 = .ok (.aload_n 0, 1) := by decide +kernel
theorem dX7_readsChange_57 : decode cX7_readsChange 57 = .ok (.iconst 2, 1) := by decide +kernel
theorem dX7_readsChange_58 : decode cX7_readsChange 58 = .ok (.invokevirtual 47, 3) := by decide +kernel
theorem dX7_readsChange_61 : decode cX7_readsChange 61 = .ok (.ifCond .ne 5, 3) := by decide +kernel
theorem dX7_readsChange_64 : decode cX7_readsChange 64 = .ok (.iconst 0, 1) := by decide +kernel
theorem dX7_readsChange_65 : decode cX7_readsChange 65 = .ok (.ireturn, 1) := by decide +kernel
theorem dX7_readsChange_66 : decode cX7_readsChange 66 = .ok (.aload_n 0, 1) := by decide +kernel
theorem dX7_readsChange_67 : decode cX7_readsChange 67 = .ok (.getfield 21, 3) := by decide +kernel
theorem dX7_readsChange_70 : decode cX7_readsChange 70 = .ok (.getfield 112, 3) := by decide +kernel
theorem dX7_readsChange_73 : decode cX7_readsChange 73 = .ok (.aload_n 0, 1) := by decide +kernel
theorem dX7_readsChange_74 : decode cX7_readsChange 74 = .ok (.getfield 81, 3) := by decide +kernel
theorem dX7_readsChange_77 : decode cX7_readsChange 77 = .ok (.invokevirtual 87, 3) := by decide +kernel
theorem dX7_readsChange_80 : decode cX7_readsChange 80 = .ok (.pop, 1) := by decide +kernel
theorem dX7_readsChange_81 : decode cX7_readsChange 81 = .ok (.iload_n 1, 1) := by decide +kernel
theorem dX7_readsChange_82 : decode cX7_readsChange 82 = .ok (.bipush 43, 2) := by decide +kernel
theorem dX7_readsChange_84 : decode cX7_readsChange 84 = .ok (.if_icmp .ne 22, 3) := by decide +kernel
theorem dX7_readsChange_87 : decode cX7_readsChange 87 = .ok (.aload_n 0, 1) := by decide +kernel
theorem dX7_readsChange_88 : decode cX7_readsChange 88 = .ok (.bipush 43, 2) := by decide +kernel
theorem dX7_readsChange_90 : decode cX7_readsChange 90 = .ok (.invokevirtual 47, 3) := by decide +kernel
theorem dX7_readsChange_93 : decode cX7_readsChange 93 = .ok (.ifCond .eq 11, 3) := by decide +kernel
theorem dX7_readsChange_96 : decode cX7_readsChange 96 = .ok (.aload_n 0, 1) := by decide +kernel
theorem dX7_readsChange_97 : decode cX7_readsChange 97 = .ok (.iconst 2, 1) := by decide +kernel
theorem dX7_readsChange_98 : decode cX7_readsChange 98 = .ok (.invokevirtual 47, 3) := by decide +kernel
theorem dX7_readsChange_101 : decode cX7_readsChange 101 = .ok (.ifCond .ne 5, 3) := by decide +kernel
theorem dX7_readsChange_104 : decode cX7_readsChange 104 = .ok (.iconst 0, 1) := by decide +kernel
theorem dX7_readsChange_105 : decode cX7_readsChange 105 = .ok (.ireturn, 1) := by decide +kernel
theorem dX7_readsChange_106 : decode cX7_readsChange 106 = .ok (.aload_n 0, 1) := by decide +kernel
theorem dX7_readsChange_107 : decode cX7_readsChange 107 = .ok (.getfield 21, 3) := by decide +kernel
theorem dX7_readsChange_110 : decode cX7_readsChange 110 = .ok (.getfield 115, 3) := by decide +kernel
theorem dX7_readsChange_113 : decode cX7_readsChange 113 = .ok (.iload_n 1, 1) := by decide +kernel
theorem dX7_readsChange_114 : decode cX7_readsChange 114 = .ok (.bipush 43, 2) := by decide +kernel
theorem dX7_readsChange_116 : decode cX7_readsChange 116 = .ok (.if_icmp .ne 10, 3) := by decide +kernel
theorem dX7_readsChange_119 : decode cX7_readsChange 119 = .ok (.aload_n 0, 1) := by decide +kernel
theorem dX7_readsChange_120 : decode cX7_readsChange 120 = .ok (.getfield 81, 3) := by decide +kernel
theorem dX7_readsChange_123 : decode cX7_readsChange 123 = .ok (.goto 4, 3) := by decide +kernel
theorem dX7_readsChange_126 : decode cX7_readsChange 126 = .ok (.iconst (-1), 1) := by decide +kernel
theorem dX7_readsChange_127 : decode cX7_readsChange 127 = .ok (.invokevirtual 87, 3) := by decide +kernel
theorem dX7_readsChange_130 : decode cX7_readsChange 130 = .ok (.pop, 1) := by decide +kernel
theorem dX7_readsChange_131 : decode cX7_readsChange 131 = .ok (.aload_n 0, 1) := by decide +kernel
theorem dX7_readsChange_132 : decode cX7_readsChange 132 = .ok (.getfield 21, 3) := by decide +kernel
theorem dX7_readsChange_135 : decode cX7_readsChange 135 = .ok (.getfield 118, 3) := by decide +kernel
theorem dX7_readsChange_138 : decode cX7_readsChange 138 = .ok (.iload_n 1, 1) := by decide +kernel
theorem dX7_readsChange_139 : decode cX7_readsChange 139 = .ok (.invokevirtual 87, 3) := by decide +kernel
theorem dX7_readsChange_142 : decode cX7_readsChange 142 = .ok (.pop, 1) := by decide +kernel
theorem dX7_readsChange_143 : decode cX7_readsChange 143 = .ok (.iconst 1, 1) := by decide +kernel
theorem dX7_readsChange_144 : decode cX7_readsChange 144 = .ok (.ireturn, 1) := by decide +kernel
def X7_readsChange_127  (this : Nat) (x1 : Int32) (y0 : Int32) (y1 : Option Nat) : MM Int32 :=
  mb (wc 9 y1 fun t => X8_add t y0) fun v1 =>
  mb (gR 8 (some this) 2) fun v2 =>
  mb (gR 6 v2 0) fun v3 =>
  mb (wc 9 v3 fun t => X8_add t x1) fun v4 =>
  mr (1 : Int32)
def X7_readsChange_106  (this : Nat) (x1 : Int32) : MM Int32 :=
  mb (gR 8 (some this) 2) fun v1 =>
  mb (gR 6 v1 3) fun v2 =>
  if x1 = (43 : Int32) then (mb (gI 8 (some this) 4) fun v3 =>
  (X7_readsChange_127 this x1 v3 v2)) else ((X7_readsChange_127 this x1 (-1 : Int32) v2))
def X7_readsChange_30  (this : Nat) (y0 : Int32) : MM Int32 :=
  mb (wc 8 (some this) fun t => X7_takes t (1 : Int32)) fun v1 =>
  if v1 = 0 then (mr (0 : Int32)) else (mb (gR 8 (some this) 2) fun v2 =>
  mb (gR 6 v2 1) fun v3 =>
  mb (gI 8 (some this) 4) fun v4 =>
  mb (wc 9 v3 fun t => X8_add t v4) fun v5 =>
  mb (wc 8 (some this) fun t => X7_takes t (2 : Int32)) fun v6 =>
  if v6 = 0 then (mr (0 : Int32)) else (mb (gR 8 (some this) 2) fun v7 =>
  mb (gR 6 v7 2) fun v8 =>
  mb (gI 8 (some this) 4) fun v9 =>
  mb (wc 9 v8 fun t => X8_add t v9) fun v10 =>
  if y0 = (43 : Int32) then (mb (wc 8 (some this) fun t => X7_takes t (43 : Int32)) fun v11 =>
  if v11 = 0 then (mr (0 : Int32)) else (mb (wc 8 (some this) fun t => X7_takes t (2 : Int32)) fun v12 =>
  if v12 = 0 then (mr (0 : Int32)) else ((X7_readsChange_106 this y0)))) else ((X7_readsChange_106 this y0))))
def X7_readsChange (this : Nat) : MM Int32 :=
  mb (wc 8 (some this) fun t => X7_skips t (45 : Int32)) fun v1 =>
  if v1 = 0 then (mb (wc 8 (some this) fun t => X7_skips t (61 : Int32)) fun v2 =>
  if v2 = 0 then ((X7_readsChange_30 this (43 : Int32))) else ((X7_readsChange_30 this (61 : Int32)))) else ((X7_readsChange_30 this (45 : Int32)))
set_option maxRecDepth 100000 in
set_option maxHeartbeats 4000000 in
theorem s_X7_readsChange_127 (G : GG)   (this : Nat) (x1 : Int32) (y0 : Int32) (y1 : Option Nat) : Sn G yX7_readsChange cX7_readsChange 2 (some FieldType.boolean) 2 42 (fun v : Int32 => some (.int v)) (X7_readsChange_127  this x1 y0 y1) 127 [some (va_rf (some this)), some (.int x1)] [.int y0, va_rf y1] := by
  unfold X7_readsChange_127
  refine sn_cV (r := y1) (st := []) (As := [.int y0]) (st2 := (fun v => .int v :: [])) (pc' := 130) ci_9 (fun t => c_X8_add G t y0) cw_X8_add rfl rfl tw499 tw484 tw483 rfl rfl cat_nil rfl (fun _ => rfl) dX7_readsChange_127 rfl (fun v1 => ?_)
  refine sn_pop (pc' := 131) dX7_readsChange_130 rfl rfl ?_
  refine sn_aload_n (v := (some this)) (pc' := 132) dX7_readsChange_131 rfl rfl rfl ?_
  refine sn_gR (k := 2) (pc' := 135) ci_8 rfl (Or.inl tw160) dX7_readsChange_132 rfl (fun v2 => ?_)
  refine sn_gR (k := 0) (pc' := 138) ci_6 rfl (Or.inr ⟨_, nw135⟩) dX7_readsChange_135 rfl (fun v3 => ?_)
  refine sn_iload_n (v := x1) (pc' := 139) dX7_readsChange_138 rfl rfl rfl ?_
  refine sn_cV (r := v3) (st := []) (As := [.int x1]) (st2 := (fun v => .int v :: [])) (pc' := 142) ci_9 (fun t => c_X8_add G t x1) cw_X8_add rfl rfl tw499 tw484 tw483 rfl rfl cat_nil rfl (fun _ => rfl) dX7_readsChange_139 rfl (fun v4 => ?_)
  refine sn_pop (pc' := 143) dX7_readsChange_142 rfl rfl ?_
  refine sn_iconst (v := (1 : Int32)) (pc' := 144) dX7_readsChange_143 rfl (by decide) ?_
  exact sn_iret dX7_readsChange_144 rfl (by decide)
set_option maxRecDepth 100000 in
set_option maxHeartbeats 4000000 in
theorem s_X7_readsChange_106 (G : GG)   (this : Nat) (x1 : Int32) : Sn G yX7_readsChange cX7_readsChange 2 (some FieldType.boolean) 2 42 (fun v : Int32 => some (.int v)) (X7_readsChange_106  this x1) 106 [some (va_rf (some this)), some (.int x1)] [] := by
  unfold X7_readsChange_106
  refine sn_aload_n (v := (some this)) (pc' := 107) dX7_readsChange_106 rfl rfl rfl ?_
  refine sn_gR (k := 2) (pc' := 110) ci_8 rfl (Or.inl tw160) dX7_readsChange_107 rfl (fun v1 => ?_)
  refine sn_gR (k := 3) (pc' := 113) ci_6 rfl (Or.inr ⟨_, nw147⟩) dX7_readsChange_110 rfl (fun v2 => ?_)
  refine sn_iload_n (v := x1) (pc' := 114) dX7_readsChange_113 rfl rfl rfl ?_
  refine sn_bipush (v := (43 : Int32)) (pc' := 116) dX7_readsChange_114 rfl (by decide) ?_
  refine sn_ic_ne (pt := 126) (pf := 119) dX7_readsChange_116 rfl rfl ?_ ?_
  · refine sn_aload_n (v := (some this)) (pc' := 120) dX7_readsChange_119 rfl rfl rfl ?_
    refine sn_gI (k := 4) (pc' := 123) ci_8 rfl (Or.inl tw164) dX7_readsChange_120 rfl (fun v3 => ?_)
    refine sn_goto (pc' := 127) dX7_readsChange_123 rfl ?_
    exact sn_weak (le_s (le_s le_e)) (s_X7_readsChange_127 G this x1 v3 v2)
  · refine sn_iconst (v := (-1 : Int32)) (pc' := 127) dX7_readsChange_126 rfl (by decide) ?_
    exact sn_weak (le_s (le_s le_e)) (s_X7_readsChange_127 G this x1 (-1 : Int32) v2)
set_option maxRecDepth 100000 in
set_option maxHeartbeats 4000000 in
theorem s_X7_readsChange_30 (G : GG)   (this : Nat) (y0 : Int32) : Sn G yX7_readsChange cX7_readsChange 2 (some FieldType.boolean) 2 42 (fun v : Int32 => some (.int v)) (X7_readsChange_30  this y0) 30 [some (va_rf (some this)), none] [.int y0] := by
  unfold X7_readsChange_30
  refine sn_istore_n (v := y0) (L' := [some (va_rf (some this)), some (.int y0)]) (pc' := 31) dX7_readsChange_30 rfl rfl rfl rfl ?_
  refine sn_aload_n (v := (some this)) (pc' := 32) dX7_readsChange_31 rfl rfl rfl ?_
  refine sn_iconst (v := (1 : Int32)) (pc' := 33) dX7_readsChange_32 rfl (by decide) ?_
  refine sn_cV (r := (some this)) (st := []) (As := [.int (1 : Int32)]) (st2 := (fun v => .int v :: [])) (pc' := 36) ci_8 (fun t => c_X7_takes G t (1 : Int32)) cw_X7_takes rfl rfl tw491 pw9 tw493 rfl rfl cat_nil rfl (fun _ => rfl) dX7_readsChange_33 rfl (fun v1 => ?_)
  refine sn_if_ne (pt := 41) (pf := 39) dX7_readsChange_36 rfl rfl ?_ ?_
  · refine sn_iconst (v := (0 : Int32)) (pc' := 40) dX7_readsChange_39 rfl (by decide) ?_
    exact sn_iret dX7_readsChange_40 rfl (by decide)
  · refine sn_aload_n (v := (some this)) (pc' := 42) dX7_readsChange_41 rfl rfl rfl ?_
    refine sn_gR (k := 2) (pc' := 45) ci_8 rfl (Or.inl tw160) dX7_readsChange_42 rfl (fun v2 => ?_)
    refine sn_gR (k := 1) (pc' := 48) ci_6 rfl (Or.inr ⟨_, nw139⟩) dX7_readsChange_45 rfl (fun v3 => ?_)
    refine sn_aload_n (v := (some this)) (pc' := 49) dX7_readsChange_48 rfl rfl rfl ?_
    refine sn_gI (k := 4) (pc' := 52) ci_8 rfl (Or.inl tw164) dX7_readsChange_49 rfl (fun v4 => ?_)
    refine sn_cV (r := v3) (st := []) (As := [.int v4]) (st2 := (fun v => .int v :: [])) (pc' := 55) ci_9 (fun t => c_X8_add G t v4) cw_X8_add rfl rfl tw499 tw484 tw483 rfl rfl cat_nil rfl (fun _ => rfl) dX7_readsChange_52 rfl (fun v5 => ?_)
    refine sn_pop (pc' := 56) dX7_readsChange_55 rfl rfl ?_
    refine sn_aload_n (v := (some this)) (pc' := 57) dX7_readsChange_56 rfl rfl rfl ?_
    refine sn_iconst (v := (2 : Int32)) (pc' := 58) dX7_readsChange_57 rfl (by decide) ?_
    refine sn_cV (r := (some this)) (st := []) (As := [.int (2 : Int32)]) (st2 := (fun v => .int v :: [])) (pc' := 61) ci_8 (fun t => c_X7_takes G t (2 : Int32)) cw_X7_takes rfl rfl tw491 pw9 tw493 rfl rfl cat_nil rfl (fun _ => rfl) dX7_readsChange_58 rfl (fun v6 => ?_)
    refine sn_if_ne (pt := 66) (pf := 64) dX7_readsChange_61 rfl rfl ?_ ?_
    · refine sn_iconst (v := (0 : Int32)) (pc' := 65) dX7_readsChange_64 rfl (by decide) ?_
      exact sn_iret dX7_readsChange_65 rfl (by decide)
    · refine sn_aload_n (v := (some this)) (pc' := 67) dX7_readsChange_66 rfl rfl rfl ?_
      refine sn_gR (k := 2) (pc' := 70) ci_8 rfl (Or.inl tw160) dX7_readsChange_67 rfl (fun v7 => ?_)
      refine sn_gR (k := 2) (pc' := 73) ci_6 rfl (Or.inr ⟨_, nw143⟩) dX7_readsChange_70 rfl (fun v8 => ?_)
      refine sn_aload_n (v := (some this)) (pc' := 74) dX7_readsChange_73 rfl rfl rfl ?_
      refine sn_gI (k := 4) (pc' := 77) ci_8 rfl (Or.inl tw164) dX7_readsChange_74 rfl (fun v9 => ?_)
      refine sn_cV (r := v8) (st := []) (As := [.int v9]) (st2 := (fun v => .int v :: [])) (pc' := 80) ci_9 (fun t => c_X8_add G t v9) cw_X8_add rfl rfl tw499 tw484 tw483 rfl rfl cat_nil rfl (fun _ => rfl) dX7_readsChange_77 rfl (fun v10 => ?_)
      refine sn_pop (pc' := 81) dX7_readsChange_80 rfl rfl ?_
      refine sn_iload_n (v := y0) (pc' := 82) dX7_readsChange_81 rfl rfl rfl ?_
      refine sn_bipush (v := (43 : Int32)) (pc' := 84) dX7_readsChange_82 rfl (by decide) ?_
      refine sn_ic_ne (pt := 106) (pf := 87) dX7_readsChange_84 rfl rfl ?_ ?_
      · refine sn_aload_n (v := (some this)) (pc' := 88) dX7_readsChange_87 rfl rfl rfl ?_
        refine sn_bipush (v := (43 : Int32)) (pc' := 90) dX7_readsChange_88 rfl (by decide) ?_
        refine sn_cV (r := (some this)) (st := []) (As := [.int (43 : Int32)]) (st2 := (fun v => .int v :: [])) (pc' := 93) ci_8 (fun t => c_X7_takes G t (43 : Int32)) cw_X7_takes rfl rfl tw491 pw9 tw493 rfl rfl cat_nil rfl (fun _ => rfl) dX7_readsChange_90 rfl (fun v11 => ?_)
        refine sn_if_eq (pt := 104) (pf := 96) dX7_readsChange_93 rfl rfl ?_ ?_
        · refine sn_iconst (v := (0 : Int32)) (pc' := 105) dX7_readsChange_104 rfl (by decide) ?_
          exact sn_iret dX7_readsChange_105 rfl (by decide)
        · refine sn_aload_n (v := (some this)) (pc' := 97) dX7_readsChange_96 rfl rfl rfl ?_
          refine sn_iconst (v := (2 : Int32)) (pc' := 98) dX7_readsChange_97 rfl (by decide) ?_
          refine sn_cV (r := (some this)) (st := []) (As := [.int (2 : Int32)]) (st2 := (fun v => .int v :: [])) (pc' := 101) ci_8 (fun t => c_X7_takes G t (2 : Int32)) cw_X7_takes rfl rfl tw491 pw9 tw493 rfl rfl cat_nil rfl (fun _ => rfl) dX7_readsChange_98 rfl (fun v12 => ?_)
          refine sn_if_ne (pt := 106) (pf := 104) dX7_readsChange_101 rfl rfl ?_ ?_
          · refine sn_iconst (v := (0 : Int32)) (pc' := 105) dX7_readsChange_104 rfl (by decide) ?_
            exact sn_iret dX7_readsChange_105 rfl (by decide)
          · exact sn_weak (le_s (le_s le_e)) (s_X7_readsChange_106 G this y0)
      · exact sn_weak (le_s (le_s le_e)) (s_X7_readsChange_106 G this y0)
set_option maxRecDepth 100000 in
set_option maxHeartbeats 4000000 in
theorem s_X7_readsChange (G : GG) (this : Nat) : Sn G yX7_readsChange cX7_readsChange 2 (some FieldType.boolean) 2 42 (fun v : Int32 => some (.int v)) (X7_readsChange this) 0 [some (va_rf (some this)), none] [] := by
  unfold X7_readsChange
  refine sn_aload_n (v := (some this)) (pc' := 1) dX7_readsChange_0 rfl rfl rfl ?_
  refine sn_bipush (v := (45 : Int32)) (pc' := 3) dX7_readsChange_1 rfl (by decide) ?_
  refine sn_cV (r := (some this)) (st := []) (As := [.int (45 : Int32)]) (st2 := (fun v => .int v :: [])) (pc' := 6) ci_8 (fun t => c_X7_skips G t (45 : Int32)) cw_X7_skips rfl rfl tw500 pw10 tw502 rfl rfl cat_nil rfl (fun _ => rfl) dX7_readsChange_3 rfl (fun v1 => ?_)
  refine sn_if_eq (pt := 14) (pf := 9) dX7_readsChange_6 rfl rfl ?_ ?_
  · refine sn_aload_n (v := (some this)) (pc' := 15) dX7_readsChange_14 rfl rfl rfl ?_
    refine sn_bipush (v := (61 : Int32)) (pc' := 17) dX7_readsChange_15 rfl (by decide) ?_
    refine sn_cV (r := (some this)) (st := []) (As := [.int (61 : Int32)]) (st2 := (fun v => .int v :: [])) (pc' := 20) ci_8 (fun t => c_X7_skips G t (61 : Int32)) cw_X7_skips rfl rfl tw500 pw10 tw502 rfl rfl cat_nil rfl (fun _ => rfl) dX7_readsChange_17 rfl (fun v2 => ?_)
    refine sn_if_eq (pt := 28) (pf := 23) dX7_readsChange_20 rfl rfl ?_ ?_
    · refine sn_bipush (v := (43 : Int32)) (pc' := 30) dX7_readsChange_28 rfl (by decide) ?_
      exact sn_weak (le_s (le_n le_e)) (s_X7_readsChange_30 G this (43 : Int32))
    · refine sn_bipush (v := (61 : Int32)) (pc' := 25) dX7_readsChange_23 rfl (by decide) ?_
      refine sn_goto (pc' := 30) dX7_readsChange_25 rfl ?_
      exact sn_weak (le_s (le_n le_e)) (s_X7_readsChange_30 G this (61 : Int32))
  · refine sn_bipush (v := (45 : Int32)) (pc' := 11) dX7_readsChange_9 rfl (by decide) ?_
    refine sn_goto (pc' := 30) dX7_readsChange_11 rfl ?_
    exact sn_weak (le_s (le_n le_e)) (s_X7_readsChange_30 G this (45 : Int32))
theorem c_X7_readsChange (G : GG) (this : Nat) : Cal G yX7_readsChange cX7_readsChange 2 (some FieldType.boolean) 2 42 (fun v : Int32 => some (.int v)) (X7_readsChange this) [.ref this] :=
  Cal.of (by decide) (cat_t cat_nil) rfl (sn_weak (le_s (le_z le_e)) (s_X7_readsChange G this))
theorem cw_X7_readsChange : CW yX7_readsChange cX7_readsChange 2 (some FieldType.boolean) 0 := ⟨tw511, tw5, by decide, by decide +kernel⟩
/-! X7_readsChangeList -/
theorem dX7_readsChangeList_0 : decode cX7_readsChangeList 0 = .ok (.iconst 0, 1) := by decide +kernel
theorem dX7_readsChangeList_1 : decode cX7_readsChangeList 1 = .ok (.istore_n 1, 1) := by decide +kernel
theorem dX7_readsChangeList_2 : decode cX7_readsChangeList 2 = .ok (.iload_n 1, 1) := by decide +kernel
theorem dX7_readsChangeList_3 : decode cX7_readsChangeList 3 = .ok (.bipush 121, 2) := by decide +kernel
theorem dX7_readsChangeList_5 : decode cX7_readsChangeList 5 = .ok (.if_icmp .ge 29, 3) := by decide +kernel
theorem dX7_readsChangeList_8 : decode cX7_readsChangeList 8 = .ok (.aload_n 0, 1) := by decide +kernel
theorem dX7_readsChangeList_9 : decode cX7_readsChangeList 9 = .ok (.invokevirtual 106, 3) := by decide +kernel
theorem dX7_readsChangeList_12 : decode cX7_readsChangeList 12 = .ok (.ifCond .ne 5, 3) := by decide +kernel
theorem dX7_readsChangeList_15 : decode cX7_readsChangeList 15 = .ok (.iconst 0, 1) := by decide +kernel
theorem dX7_readsChangeList_16 : decode cX7_readsChangeList 16 = .ok (.ireturn, 1) := by decide +kernel
theorem dX7_readsChangeList_17 : decode cX7_readsChangeList 17 = .ok (.aload_n 0, 1) := by decide +kernel
theorem dX7_readsChangeList_18 : decode cX7_readsChangeList 18 = .ok (.bipush 44, 2) := by decide +kernel
theorem dX7_readsChangeList_20 : decode cX7_readsChangeList 20 = .ok (.invokevirtual 40, 3) := by decide +kernel
theorem dX7_readsChangeList_23 : decode cX7_readsChangeList 23 = .ok (.ifCond .ne 5, 3) := by decide +kernel
theorem dX7_readsChangeList_26 : decode cX7_readsChangeList 26 = .ok (.iconst 1, 1) := by decide +kernel
theorem dX7_readsChangeList_27 : decode cX7_readsChangeList 27 = .ok (.ireturn, 1) := by decide +kernel
theorem dX7_readsChangeList_28 : decode cX7_readsChangeList 28 = .ok (.iinc 1 1, 3) := by decide +kernel
theorem dX7_readsChangeList_31 : decode cX7_readsChangeList 31 = .ok (.goto (-29), 3) := by decide +kernel
theorem dX7_readsChangeList_34 : decode cX7_readsChangeList 34 = .ok (.iconst 0, 1) := by decide +kernel
theorem dX7_readsChangeList_35 : decode cX7_readsChangeList 35 = .ok (.ireturn, 1) := by decide +kernel
def X7_readsChangeList_2_st  (k2 : Nat → Int32 → MM Int32) (this : Nat) (x1 : Int32) : MM Int32 :=
  if (121 : Int32) ≤ x1 then (mr (0 : Int32)) else (mb (wc 8 (some this) fun t => X7_readsChange t ) fun v1 =>
  if v1 = 0 then (mr (0 : Int32)) else (mb (wc 8 (some this) fun t => X7_skips t (44 : Int32)) fun v2 =>
  if v2 = 0 then (mr (1 : Int32)) else ((k2 this (x1 + (1 : Int32))))))
def X7_readsChangeList_2  : Nat → Nat → Int32 → MM Int32
  | 0 => fun _ _ => mf
  | n + 1 => fun this x1 => X7_readsChangeList_2_st  (X7_readsChangeList_2  n) this x1
def X7_readsChangeList (this : Nat) : MM Int32 :=
  (X7_readsChangeList_2 LFU this (0 : Int32))
set_option maxRecDepth 100000 in
set_option maxHeartbeats 4000000 in
theorem s_X7_readsChangeList_2_st (G : GG)   (k2 : Nat → Int32 → MM Int32) (hk2 : ∀ (this : Nat) (x1 : Int32), Sn G yX7_readsChangeList cX7_readsChangeList 2 (some FieldType.boolean) 3 63 (fun v : Int32 => some (.int v)) (k2 this x1) 2 [some (va_rf (some this)), some (.int x1)] []) (this : Nat) (x1 : Int32) : Sn G yX7_readsChangeList cX7_readsChangeList 2 (some FieldType.boolean) 3 63 (fun v : Int32 => some (.int v)) (X7_readsChangeList_2_st  k2 this x1) 2 [some (va_rf (some this)), some (.int x1)] [] := by
  unfold X7_readsChangeList_2_st
  refine sn_iload_n (v := x1) (pc' := 3) dX7_readsChangeList_2 rfl rfl rfl ?_
  refine sn_bipush (v := (121 : Int32)) (pc' := 5) dX7_readsChangeList_3 rfl (by decide) ?_
  refine sn_ic_ge (pt := 34) (pf := 8) dX7_readsChangeList_5 rfl rfl ?_ ?_
  · refine sn_iconst (v := (0 : Int32)) (pc' := 35) dX7_readsChangeList_34 rfl (by decide) ?_
    exact sn_iret dX7_readsChangeList_35 rfl (by decide)
  · refine sn_aload_n (v := (some this)) (pc' := 9) dX7_readsChangeList_8 rfl rfl rfl ?_
    refine sn_cV (r := (some this)) (st := []) (As := []) (st2 := (fun v => .int v :: [])) (pc' := 12) ci_8 (fun t => c_X7_readsChange G t ) cw_X7_readsChange rfl rfl tw508 pw12 tw510 rfl rfl cat_nil rfl (fun _ => rfl) dX7_readsChangeList_9 rfl (fun v1 => ?_)
    refine sn_if_ne (pt := 17) (pf := 15) dX7_readsChangeList_12 rfl rfl ?_ ?_
    · refine sn_iconst (v := (0 : Int32)) (pc' := 16) dX7_readsChangeList_15 rfl (by decide) ?_
      exact sn_iret dX7_readsChangeList_16 rfl (by decide)
    · refine sn_aload_n (v := (some this)) (pc' := 18) dX7_readsChangeList_17 rfl rfl rfl ?_
      refine sn_bipush (v := (44 : Int32)) (pc' := 20) dX7_readsChangeList_18 rfl (by decide) ?_
      refine sn_cV (r := (some this)) (st := []) (As := [.int (44 : Int32)]) (st2 := (fun v => .int v :: [])) (pc' := 23) ci_8 (fun t => c_X7_skips G t (44 : Int32)) cw_X7_skips rfl rfl tw500 pw10 tw502 rfl rfl cat_nil rfl (fun _ => rfl) dX7_readsChangeList_20 rfl (fun v2 => ?_)
      refine sn_if_ne (pt := 28) (pf := 26) dX7_readsChangeList_23 rfl rfl ?_ ?_
      · refine sn_iconst (v := (1 : Int32)) (pc' := 27) dX7_readsChangeList_26 rfl (by decide) ?_
        exact sn_iret dX7_readsChangeList_27 rfl (by decide)
      · refine sn_iinc (v := x1) (w := 1) (L' := [some (va_rf (some this)), some (.int (x1 + (1 : Int32)))]) (pc' := 31) dX7_readsChangeList_28 rfl rfl rfl (by decide) rfl ?_
        refine sn_goto (pc' := 2) dX7_readsChangeList_31 rfl ?_
        exact sn_weak (le_s (le_s le_e)) (hk2 this (x1 + (1 : Int32)))
set_option maxRecDepth 100000 in
set_option maxHeartbeats 4000000 in
theorem s_X7_readsChangeList_2 (G : GG)   : ∀ (n : Nat) (this : Nat) (x1 : Int32), Sn G yX7_readsChangeList cX7_readsChangeList 2 (some FieldType.boolean) 3 63 (fun v : Int32 => some (.int v)) (X7_readsChangeList_2  n this x1) 2 [some (va_rf (some this)), some (.int x1)] [] := by
  intro n
  induction n with
  | zero => intro this x1; exact sn_mf
  | succ n ih => intro this x1; exact s_X7_readsChangeList_2_st G   (X7_readsChangeList_2  n) ih this x1
set_option maxRecDepth 100000 in
set_option maxHeartbeats 4000000 in
theorem s_X7_readsChangeList (G : GG) (this : Nat) : Sn G yX7_readsChangeList cX7_readsChangeList 2 (some FieldType.boolean) 3 63 (fun v : Int32 => some (.int v)) (X7_readsChangeList this) 0 [some (va_rf (some this)), none] [] := by
  unfold X7_readsChangeList
  refine sn_iconst (v := (0 : Int32)) (pc' := 1) dX7_readsChangeList_0 rfl (by decide) ?_
  refine sn_istore_n (v := (0 : Int32)) (L' := [some (va_rf (some this)), some (.int (0 : Int32))]) (pc' := 2) dX7_readsChangeList_1 rfl rfl rfl rfl ?_
  exact sn_weak (le_s (le_s le_e)) (s_X7_readsChangeList_2 G LFU this (0 : Int32))
theorem c_X7_readsChangeList (G : GG) (this : Nat) : Cal G yX7_readsChangeList cX7_readsChangeList 2 (some FieldType.boolean) 3 63 (fun v : Int32 => some (.int v)) (X7_readsChangeList this) [.ref this] :=
  Cal.of (by decide) (cat_t cat_nil) rfl (sn_weak (le_s (le_z le_e)) (s_X7_readsChangeList G this))
theorem cw_X7_readsChangeList : CW yX7_readsChangeList cX7_readsChangeList 2 (some FieldType.boolean) 0 := ⟨tw507, tw5, by decide, by decide +kernel⟩
/-! X5_amount -/
theorem dX5_amount_0 : decode cX5_amount 0 = .ok (.aload_n 0, 1) := by decide +kernel
theorem dX5_amount_1 : decode cX5_amount 1 = .ok (.getfield 20, 3) := by decide +kernel
theorem dX5_amount_4 : decode cX5_amount 4 = .ok (.getfield 32, 3) := by decide +kernel
theorem dX5_amount_7 : decode cX5_amount 7 = .ok (.ireturn, 1) := by decide +kernel
def X5_amount (this : Nat) : MM Int32 :=
  mb (gR 6 (some this) 1) fun v1 =>
  mb (gI 9 v1 1) fun v2 =>
  mr v2
set_option maxRecDepth 100000 in
set_option maxHeartbeats 4000000 in
theorem s_X5_amount (G : GG) (this : Nat) : Sn G yX5_amount cX5_amount 1 (some FieldType.int) 0 0 (fun v : Int32 => some (.int v)) (X5_amount this) 0 [some (va_rf (some this))] [] := by
  unfold X5_amount
  refine sn_aload_n (v := (some this)) (pc' := 1) dX5_amount_0 rfl rfl rfl ?_
  refine sn_gR (k := 1) (pc' := 4) ci_6 rfl (Or.inl tw136) dX5_amount_1 rfl (fun v1 => ?_)
  refine sn_gI (k := 1) (pc' := 7) ci_9 rfl (Or.inr ⟨_, nw53⟩) dX5_amount_4 rfl (fun v2 => ?_)
  exact sn_iret dX5_amount_7 rfl rfl
theorem c_X5_amount (G : GG) (this : Nat) : Cal G yX5_amount cX5_amount 1 (some FieldType.int) 0 0 (fun v : Int32 => some (.int v)) (X5_amount this) [.ref this] :=
  Cal.of (by decide) (cat_t cat_nil) rfl (sn_weak (le_s le_e) (s_X5_amount G this))
theorem cw_X5_amount : CW yX5_amount cX5_amount 1 (some FieldType.int) 0 := ⟨tw515, tw7, by decide, by decide +kernel⟩
/-! X7_readsGroup -/
theorem dX7_readsGroup_0 : decode cX7_readsGroup 0 = .ok (.aload_n 0, 1) := by decide +kernel
theorem dX7_readsGroup_1 : decode cX7_readsGroup 1 = .ok (.iconst 1, 1) := by decide +kernel
theorem dX7_readsGroup_2 : decode cX7_readsGroup 2 = .ok (.invokevirtual 47, 3) := by decide +kernel
theorem dX7_readsGroup_5 : decode cX7_readsGroup 5 = .ok (.ifCond .ne 5, 3) := by decide +kernel
theorem dX7_readsGroup_8 : decode cX7_readsGroup 8 = .ok (.iconst 0, 1) := by decide +kernel
theorem dX7_readsGroup_9 : decode cX7_readsGroup 9 = .ok (.ireturn, 1) := by decide +kernel
theorem dX7_readsGroup_10 : decode cX7_readsGroup 10 = .ok (.aload_n 0, 1) := by decide +kernel
theorem dX7_readsGroup_11 : decode cX7_readsGroup 11 = .ok (.getfield 12, 3) := by decide +kernel
theorem dX7_readsGroup_14 : decode cX7_readsGroup 14 = .ok (.getfield 84, 3) := by decide +kernel
theorem dX7_readsGroup_17 : decode cX7_readsGroup 17 = .ok (.aload_n 0, 1) := by decide +kernel
theorem dX7_readsGroup_18 : decode cX7_readsGroup 18 = .ok (.getfield 81, 3) := by decide +kernel
theorem dX7_readsGroup_21 : decode cX7_readsGroup 21 = .ok (.invokevirtual 87, 3) := by decide +kernel
theorem dX7_readsGroup_24 : decode cX7_readsGroup 24 = .ok (.pop, 1) := by decide +kernel
theorem dX7_readsGroup_25 : decode cX7_readsGroup 25 = .ok (.aload_n 0, 1) := by decide +kernel
theorem dX7_readsGroup_26 : decode cX7_readsGroup 26 = .ok (.bipush 45, 2) := by decide +kernel
theorem dX7_readsGroup_28 : decode cX7_readsGroup 28 = .ok (.invokevirtual 40, 3) := by decide +kernel
theorem dX7_readsGroup_31 : decode cX7_readsGroup 31 = .ok (.istore_n 1, 1) := by decide +kernel
theorem dX7_readsGroup_32 : decode cX7_readsGroup 32 = .ok (.iload_n 1, 1) := by decide +kernel
theorem dX7_readsGroup_33 : decode cX7_readsGroup 33 = .ok (.ifCond .eq 13, 3) := by decide +kernel
theorem dX7_readsGroup_36 : decode cX7_readsGroup 36 = .ok (.aload_n 0, 1) := by decide +kernel
theorem dX7_readsGroup_37 : decode cX7_readsGroup 37 = .ok (.iconst 1, 1) := by decide +kernel
theorem dX7_readsGroup_38 : decode cX7_readsGroup 38 = .ok (.invokevirtual 47, 3) := by decide +kernel
theorem dX7_readsGroup_41 : decode cX7_readsGroup 41 = .ok (.ifCond .ne 5, 3) := by decide +kernel
theorem dX7_readsGroup_44 : decode cX7_readsGroup 44 = .ok (.iconst 0, 1) := by decide +kernel
theorem dX7_readsGroup_45 : decode cX7_readsGroup 45 = .ok (.ireturn, 1) := by decide +kernel
theorem dX7_readsGroup_46 : decode cX7_readsGroup 46 = .ok (.aload_n 0, 1) := by decide +kernel
theorem dX7_readsGroup_47 : decode cX7_readsGroup 47 = .ok (.getfield 12, 3) := by decide +kernel
theorem dX7_readsGroup_50 : decode cX7_readsGroup 50 = .ok (.getfield 90, 3) := by decide +kernel
theorem dX7_readsGroup_53 : decode cX7_readsGroup 53 = .ok (.iload_n 1, 1) := by decide +kernel
theorem dX7_readsGroup_54 : decode cX7_readsGroup 54 = .ok (.ifCond .eq 10, 3) := by decide +kernel
theorem dX7_readsGroup_57 : decode cX7_readsGroup 57 = .ok (.aload_n 0, 1) := by decide +kernel
theorem dX7_readsGroup_58 : decode cX7_readsGroup 58 = .ok (.getfield 81, 3) := by decide +kernel
theorem dX7_readsGroup_61 : decode cX7_readsGroup 61 = .ok (.goto 4, 3) := by decide +kernel
theorem dX7_readsGroup_64 : decode cX7_readsGroup 64 = .ok (.iconst (-1), 1) := by decide +kernel
theorem dX7_readsGroup_65 : decode cX7_readsGroup 65 = .ok (.invokevirtual 87, 3) := by decide +kernel
theorem dX7_readsGroup_68 : decode cX7_readsGroup 68 = .ok (.pop, 1) := by decide +kernel
theorem dX7_readsGroup_69 : decode cX7_readsGroup 69 = .ok (.aload_n 0, 1) := by decide +kernel
theorem dX7_readsGroup_70 : decode cX7_readsGroup 70 = .ok (.iconst 2, 1) := by decide +kernel
theorem dX7_readsGroup_71 : decode cX7_readsGroup 71 = .ok (.invokevirtual 47, 3) := by decide +kernel
theorem dX7_readsGroup_74 : decode cX7_readsGroup 74 = .ok (.ifCond .ne 5, 3) := by decide +kernel
theorem dX7_readsGroup_77 : decode cX7_readsGroup 77 = .ok (.iconst 0, 1) := by decide +kernel
theorem dX7_readsGroup_78 : decode cX7_readsGroup 78 = .ok (.ireturn, 1) := by decide +kernel
theorem dX7_readsGroup_79 : decode cX7_readsGroup 79 = .ok (.aload_n 0, 1) := by decide +kernel
theorem dX7_readsGroup_80 : decode cX7_readsGroup 80 = .ok (.getfield 12, 3) := by decide +kernel
theorem dX7_readsGroup_83 : decode cX7_readsGroup 83 = .ok (.getfield 93, 3) := by decide +kernel
theorem dX7_readsGroup_86 : decode cX7_readsGroup 86 = .ok (.aload_n 0, 1) := by decide +kernel
theorem dX7_readsGroup_87 : decode cX7_readsGroup 87 = .ok (.getfield 81, 3) := by decide +kernel
theorem dX7_readsGroup_90 : decode cX7_readsGroup 90 = .ok (.invokevirtual 87, 3) := by decide +kernel
theorem dX7_readsGroup_93 : decode cX7_readsGroup 93 = .ok (.pop, 1) := by decide +kernel
theorem dX7_readsGroup_94 : decode cX7_readsGroup 94 = .ok (.iload_n 1, 1) := by decide +kernel
theorem dX7_readsGroup_95 : decode cX7_readsGroup 95 = .ok (.ifCond .eq 22, 3) := by decide +kernel
theorem dX7_readsGroup_98 : decode cX7_readsGroup 98 = .ok (.aload_n 0, 1) := by decide +kernel
theorem dX7_readsGroup_99 : decode cX7_readsGroup 99 = .ok (.bipush 44, 2) := by decide +kernel
theorem dX7_readsGroup_101 : decode cX7_readsGroup 101 = .ok (.invokevirtual 40, 3) := by decide +kernel
theorem dX7_readsGroup_104 : decode cX7_readsGroup 104 = .ok (.ifCond .eq 13, 3) := by decide +kernel
theorem dX7_readsGroup_107 : decode cX7_readsGroup 107 = .ok (.aload_n 0, 1) := by decide +kernel
theorem dX7_readsGroup_108 : decode cX7_readsGroup 108 = .ok (.iconst 2, 1) := by decide +kernel
theorem dX7_readsGroup_109 : decode cX7_readsGroup 109 = .ok (.invokevirtual 47, 3) := by decide +kernel
theorem dX7_readsGroup_112 : decode cX7_readsGroup 112 = .ok (.ifCond .ne 5, 3) := by decide +kernel
theorem dX7_readsGroup_115 : decode cX7_readsGroup 115 = .ok (.iconst 0, 1) := by decide +kernel
theorem dX7_readsGroup_116 : decode cX7_readsGroup 116 = .ok (.ireturn, 1) := by decide +kernel
theorem dX7_readsGroup_117 : decode cX7_readsGroup 117 = .ok (.aload_n 0, 1) := by decide +kernel
theorem dX7_readsGroup_118 : decode cX7_readsGroup 118 = .ok (.getfield 12, 3) := by decide +kernel
theorem dX7_readsGroup_121 : decode cX7_readsGroup 121 = .ok (.getfield 96, 3) := by decide +kernel
theorem dX7_readsGroup_124 : decode cX7_readsGroup 124 = .ok (.aload_n 0, 1) := by decide +kernel
theorem dX7_readsGroup_125 : decode cX7_readsGroup 125 = .ok (.getfield 81, 3) := by decide +kernel
theorem dX7_readsGroup_128 : decode cX7_readsGroup 128 = .ok (.invokevirtual 87, 3) := by decide +kernel
theorem dX7_readsGroup_131 : decode cX7_readsGroup 131 = .ok (.pop, 1) := by decide +kernel
theorem dX7_readsGroup_132 : decode cX7_readsGroup 132 = .ok (.aload_n 0, 1) := by decide +kernel
theorem dX7_readsGroup_133 : decode cX7_readsGroup 133 = .ok (.bipush 40, 2) := by decide +kernel
theorem dX7_readsGroup_135 : decode cX7_readsGroup 135 = .ok (.invokevirtual 40, 3) := by decide +kernel
theorem dX7_readsGroup_138 : decode cX7_readsGroup 138 = .ok (.ifCond .eq 21, 3) := by decide +kernel
theorem dX7_readsGroup_141 : decode cX7_readsGroup 141 = .ok (.aload_n 0, 1) := by decide +kernel
theorem dX7_readsGroup_142 : decode cX7_readsGroup 142 = .ok (.invokevirtual 44, 3) := by decide +kernel
theorem dX7_readsGroup_145 : decode cX7_readsGroup 145 = .ok (.ifCond .eq 12, 3) := by decide +kernel
theorem dX7_readsGroup_148 : decode cX7_readsGroup 148 = .ok (.aload_n 0, 1) := by decide +kernel
theorem dX7_readsGroup_149 : decode cX7_readsGroup 149 = .ok (.bipush 41, 2) := by decide +kernel
theorem dX7_readsGroup_151 : decode cX7_readsGroup 151 = .ok (.invokevirtual 47, 3) := by decide +kernel
theorem dX7_readsGroup_154 : decode cX7_readsGroup 154 = .ok (.ifCond .ne 5, 3) := by decide +kernel
theorem dX7_readsGroup_157 : decode cX7_readsGroup 157 = .ok (.iconst 0, 1) := by decide +kernel
theorem dX7_readsGroup_158 : decode cX7_readsGroup 158 = .ok (.ireturn, 1) := by decide +kernel
theorem dX7_readsGroup_159 : decode cX7_readsGroup 159 = .ok (.aload_n 0, 1) := by decide +kernel
theorem dX7_readsGroup_160 : decode cX7_readsGroup 160 = .ok (.getfield 12, 3) := by decide +kernel
theorem dX7_readsGroup_163 : decode cX7_readsGroup 163 = .ok (.getfield 99, 3) := by decide +kernel
theorem dX7_readsGroup_166 : decode cX7_readsGroup 166 = .ok (.aload_n 0, 1) := by decide +kernel
theorem dX7_readsGroup_167 : decode cX7_readsGroup 167 = .ok (.getfield 21, 3) := by decide +kernel
theorem dX7_readsGroup_170 : decode cX7_readsGroup 170 = .ok (.invokevirtual 102, 3) := by decide +kernel
theorem dX7_readsGroup_173 : decode cX7_readsGroup 173 = .ok (.invokevirtual 87, 3) := by decide +kernel
theorem dX7_readsGroup_176 : decode cX7_readsGroup 176 = .ok (.pop, 1) := by decide +kernel
theorem dX7_readsGroup_177 : decode cX7_readsGroup 177 = .ok (.iconst 1, 1) := by decide +kernel
theorem dX7_readsGroup_178 : decode cX7_readsGroup 178 = .ok (.ireturn, 1) := by decide +kernel
def X7_readsGroup_159  (this : Nat) : MM Int32 :=
  mb (gR 8 (some this) 1) fun v1 =>
  mb (gR 5 v1 4) fun v2 =>
  mb (gR 8 (some this) 2) fun v3 =>
  mb (wc 6 v3 fun t => X5_amount t ) fun v4 =>
  mb (wc 9 v2 fun t => X8_add t v4) fun v5 =>
  mr (1 : Int32)
def X7_readsGroup_117  (this : Nat) : MM Int32 :=
  mb (gR 8 (some this) 1) fun v1 =>
  mb (gR 5 v1 3) fun v2 =>
  mb (gI 8 (some this) 4) fun v3 =>
  mb (wc 9 v2 fun t => X8_add t v3) fun v4 =>
  mb (wc 8 (some this) fun t => X7_skips t (40 : Int32)) fun v5 =>
  if v5 = 0 then ((X7_readsGroup_159 this)) else (mb (wc 8 (some this) fun t => X7_readsChangeList t ) fun v6 =>
  if v6 = 0 then (mr (0 : Int32)) else (mb (wc 8 (some this) fun t => X7_takes t (41 : Int32)) fun v7 =>
  if v7 = 0 then (mr (0 : Int32)) else ((X7_readsGroup_159 this))))
def X7_readsGroup_65  (this : Nat) (x1 : Int32) (y0 : Int32) (y1 : Option Nat) : MM Int32 :=
  mb (wc 9 y1 fun t => X8_add t y0) fun v1 =>
  mb (wc 8 (some this) fun t => X7_takes t (2 : Int32)) fun v2 =>
  if v2 = 0 then (mr (0 : Int32)) else (mb (gR 8 (some this) 1) fun v3 =>
  mb (gR 5 v3 2) fun v4 =>
  mb (gI 8 (some this) 4) fun v5 =>
  mb (wc 9 v4 fun t => X8_add t v5) fun v6 =>
  if x1 = 0 then ((X7_readsGroup_117 this)) else (mb (wc 8 (some this) fun t => X7_skips t (44 : Int32)) fun v7 =>
  if v7 = 0 then ((X7_readsGroup_117 this)) else (mb (wc 8 (some this) fun t => X7_takes t (2 : Int32)) fun v8 =>
  if v8 = 0 then (mr (0 : Int32)) else ((X7_readsGroup_117 this)))))
def X7_readsGroup_46  (this : Nat) (x1 : Int32) : MM Int32 :=
  mb (gR 8 (some this) 1) fun v1 =>
  mb (gR 5 v1 1) fun v2 =>
  if x1 = 0 then ((X7_readsGroup_65 this x1 (-1 : Int32) v2)) else (mb (gI 8 (some this) 4) fun v3 =>
  (X7_readsGroup_65 this x1 v3 v2))
def X7_readsGroup (this : Nat) : MM Int32 :=
  mb (wc 8 (some this) fun t => X7_takes t (1 : Int32)) fun v1 =>
  if v1 = 0 then (mr (0 : Int32)) else (mb (gR 8 (some this) 1) fun v2 =>
  mb (gR 5 v2 0) fun v3 =>
  mb (gI 8 (some this) 4) fun v4 =>
  mb (wc 9 v3 fun t => X8_add t v4) fun v5 =>
  mb (wc 8 (some this) fun t => X7_skips t (45 : Int32)) fun v6 =>
  if v6 = 0 then ((X7_readsGroup_46 this v6)) else (mb (wc 8 (some this) fun t => X7_takes t (1 : Int32)) fun v7 =>
  if v7 = 0 then (mr (0 : Int32)) else ((X7_readsGroup_46 this v6))))
set_option maxRecDepth 100000 in
set_option maxHeartbeats 4000000 in
theorem s_X7_readsGroup_159 (G : GG)   (this : Nat) : Sn G yX7_readsGroup cX7_readsGroup 2 (some FieldType.boolean) 4 84 (fun v : Int32 => some (.int v)) (X7_readsGroup_159  this) 159 [some (va_rf (some this)), none] [] := by
  unfold X7_readsGroup_159
  refine sn_aload_n (v := (some this)) (pc' := 160) dX7_readsGroup_159 rfl rfl rfl ?_
  refine sn_gR (k := 1) (pc' := 163) ci_8 rfl (Or.inl tw158) dX7_readsGroup_160 rfl (fun v1 => ?_)
  refine sn_gR (k := 4) (pc' := 166) ci_5 rfl (Or.inr ⟨_, nw113⟩) dX7_readsGroup_163 rfl (fun v2 => ?_)
  refine sn_aload_n (v := (some this)) (pc' := 167) dX7_readsGroup_166 rfl rfl rfl ?_
  refine sn_gR (k := 2) (pc' := 170) ci_8 rfl (Or.inl tw160) dX7_readsGroup_167 rfl (fun v3 => ?_)
  refine sn_cV (r := v3) (st := [va_rf v2]) (As := []) (st2 := (fun v => .int v :: [va_rf v2])) (pc' := 173) ci_6 (fun t => c_X5_amount G t ) cw_X5_amount rfl rfl tw512 tw514 tw513 rfl rfl (cat_q cat_nil) rfl (fun _ => rfl) dX7_readsGroup_170 rfl (fun v4 => ?_)
  refine sn_cV (r := v2) (st := []) (As := [.int v4]) (st2 := (fun v => .int v :: [])) (pc' := 176) ci_9 (fun t => c_X8_add G t v4) cw_X8_add rfl rfl tw499 tw484 tw483 rfl rfl cat_nil rfl (fun _ => rfl) dX7_readsGroup_173 rfl (fun v5 => ?_)
  refine sn_pop (pc' := 177) dX7_readsGroup_176 rfl rfl ?_
  refine sn_iconst (v := (1 : Int32)) (pc' := 178) dX7_readsGroup_177 rfl (by decide) ?_
  exact sn_iret dX7_readsGroup_178 rfl (by decide)
set_option maxRecDepth 100000 in
set_option maxHeartbeats 4000000 in
theorem s_X7_readsGroup_117 (G : GG)   (this : Nat) : Sn G yX7_readsGroup cX7_readsGroup 2 (some FieldType.boolean) 4 84 (fun v : Int32 => some (.int v)) (X7_readsGroup_117  this) 117 [some (va_rf (some this)), none] [] := by
  unfold X7_readsGroup_117
  refine sn_aload_n (v := (some this)) (pc' := 118) dX7_readsGroup_117 rfl rfl rfl ?_
  refine sn_gR (k := 1) (pc' := 121) ci_8 rfl (Or.inl tw158) dX7_readsGroup_118 rfl (fun v1 => ?_)
  refine sn_gR (k := 3) (pc' := 124) ci_5 rfl (Or.inr ⟨_, nw110⟩) dX7_readsGroup_121 rfl (fun v2 => ?_)
  refine sn_aload_n (v := (some this)) (pc' := 125) dX7_readsGroup_124 rfl rfl rfl ?_
  refine sn_gI (k := 4) (pc' := 128) ci_8 rfl (Or.inl tw164) dX7_readsGroup_125 rfl (fun v3 => ?_)
  refine sn_cV (r := v2) (st := []) (As := [.int v3]) (st2 := (fun v => .int v :: [])) (pc' := 131) ci_9 (fun t => c_X8_add G t v3) cw_X8_add rfl rfl tw499 tw484 tw483 rfl rfl cat_nil rfl (fun _ => rfl) dX7_readsGroup_128 rfl (fun v4 => ?_)
  refine sn_pop (pc' := 132) dX7_readsGroup_131 rfl rfl ?_
  refine sn_aload_n (v := (some this)) (pc' := 133) dX7_readsGroup_132 rfl rfl rfl ?_
  refine sn_bipush (v := (40 : Int32)) (pc' := 135) dX7_readsGroup_133 rfl (by decide) ?_
  refine sn_cV (r := (some this)) (st := []) (As := [.int (40 : Int32)]) (st2 := (fun v => .int v :: [])) (pc' := 138) ci_8 (fun t => c_X7_skips G t (40 : Int32)) cw_X7_skips rfl rfl tw500 pw10 tw502 rfl rfl cat_nil rfl (fun _ => rfl) dX7_readsGroup_135 rfl (fun v5 => ?_)
  refine sn_if_eq (pt := 159) (pf := 141) dX7_readsGroup_138 rfl rfl ?_ ?_
  · exact sn_weak (le_s (le_n le_e)) (s_X7_readsGroup_159 G this)
  · refine sn_aload_n (v := (some this)) (pc' := 142) dX7_readsGroup_141 rfl rfl rfl ?_
    refine sn_cV (r := (some this)) (st := []) (As := []) (st2 := (fun v => .int v :: [])) (pc' := 145) ci_8 (fun t => c_X7_readsChangeList G t ) cw_X7_readsChangeList rfl rfl tw504 pw11 tw506 rfl rfl cat_nil rfl (fun _ => rfl) dX7_readsGroup_142 rfl (fun v6 => ?_)
    refine sn_if_eq (pt := 157) (pf := 148) dX7_readsGroup_145 rfl rfl ?_ ?_
    · refine sn_iconst (v := (0 : Int32)) (pc' := 158) dX7_readsGroup_157 rfl (by decide) ?_
      exact sn_iret dX7_readsGroup_158 rfl (by decide)
    · refine sn_aload_n (v := (some this)) (pc' := 149) dX7_readsGroup_148 rfl rfl rfl ?_
      refine sn_bipush (v := (41 : Int32)) (pc' := 151) dX7_readsGroup_149 rfl (by decide) ?_
      refine sn_cV (r := (some this)) (st := []) (As := [.int (41 : Int32)]) (st2 := (fun v => .int v :: [])) (pc' := 154) ci_8 (fun t => c_X7_takes G t (41 : Int32)) cw_X7_takes rfl rfl tw491 pw9 tw493 rfl rfl cat_nil rfl (fun _ => rfl) dX7_readsGroup_151 rfl (fun v7 => ?_)
      refine sn_if_ne (pt := 159) (pf := 157) dX7_readsGroup_154 rfl rfl ?_ ?_
      · refine sn_iconst (v := (0 : Int32)) (pc' := 158) dX7_readsGroup_157 rfl (by decide) ?_
        exact sn_iret dX7_readsGroup_158 rfl (by decide)
      · exact sn_weak (le_s (le_n le_e)) (s_X7_readsGroup_159 G this)
set_option maxRecDepth 100000 in
set_option maxHeartbeats 4000000 in
theorem s_X7_readsGroup_65 (G : GG)   (this : Nat) (x1 : Int32) (y0 : Int32) (y1 : Option Nat) : Sn G yX7_readsGroup cX7_readsGroup 2 (some FieldType.boolean) 4 84 (fun v : Int32 => some (.int v)) (X7_readsGroup_65  this x1 y0 y1) 65 [some (va_rf (some this)), some (.int x1)] [.int y0, va_rf y1] := by
  unfold X7_readsGroup_65
  refine sn_cV (r := y1) (st := []) (As := [.int y0]) (st2 := (fun v => .int v :: [])) (pc' := 68) ci_9 (fun t => c_X8_add G t y0) cw_X8_add rfl rfl tw499 tw484 tw483 rfl rfl cat_nil rfl (fun _ => rfl) dX7_readsGroup_65 rfl (fun v1 => ?_)
  refine sn_pop (pc' := 69) dX7_readsGroup_68 rfl rfl ?_
  refine sn_aload_n (v := (some this)) (pc' := 70) dX7_readsGroup_69 rfl rfl rfl ?_
  refine sn_iconst (v := (2 : Int32)) (pc' := 71) dX7_readsGroup_70 rfl (by decide) ?_
  refine sn_cV (r := (some this)) (st := []) (As := [.int (2 : Int32)]) (st2 := (fun v => .int v :: [])) (pc' := 74) ci_8 (fun t => c_X7_takes G t (2 : Int32)) cw_X7_takes rfl rfl tw491 pw9 tw493 rfl rfl cat_nil rfl (fun _ => rfl) dX7_readsGroup_71 rfl (fun v2 => ?_)
  refine sn_if_ne (pt := 79) (pf := 77) dX7_readsGroup_74 rfl rfl ?_ ?_
  · refine sn_iconst (v := (0 : Int32)) (pc' := 78) dX7_readsGroup_77 rfl (by decide) ?_
    exact sn_iret dX7_readsGroup_78 rfl (by decide)
  · refine sn_aload_n (v := (some this)) (pc' := 80) dX7_readsGroup_79 rfl rfl rfl ?_
    refine sn_gR (k := 1) (pc' := 83) ci_8 rfl (Or.inl tw158) dX7_readsGroup_80 rfl (fun v3 => ?_)
    refine sn_gR (k := 2) (pc' := 86) ci_5 rfl (Or.inr ⟨_, nw107⟩) dX7_readsGroup_83 rfl (fun v4 => ?_)
    refine sn_aload_n (v := (some this)) (pc' := 87) dX7_readsGroup_86 rfl rfl rfl ?_
    refine sn_gI (k := 4) (pc' := 90) ci_8 rfl (Or.inl tw164) dX7_readsGroup_87 rfl (fun v5 => ?_)
    refine sn_cV (r := v4) (st := []) (As := [.int v5]) (st2 := (fun v => .int v :: [])) (pc' := 93) ci_9 (fun t => c_X8_add G t v5) cw_X8_add rfl rfl tw499 tw484 tw483 rfl rfl cat_nil rfl (fun _ => rfl) dX7_readsGroup_90 rfl (fun v6 => ?_)
    refine sn_pop (pc' := 94) dX7_readsGroup_93 rfl rfl ?_
    refine sn_iload_n (v := x1) (pc' := 95) dX7_readsGroup_94 rfl rfl rfl ?_
    refine sn_if_eq (pt := 117) (pf := 98) dX7_readsGroup_95 rfl rfl ?_ ?_
    · exact sn_weak (le_s (le_n le_e)) (s_X7_readsGroup_117 G this)
    · refine sn_aload_n (v := (some this)) (pc' := 99) dX7_readsGroup_98 rfl rfl rfl ?_
      refine sn_bipush (v := (44 : Int32)) (pc' := 101) dX7_readsGroup_99 rfl (by decide) ?_
      refine sn_cV (r := (some this)) (st := []) (As := [.int (44 : Int32)]) (st2 := (fun v => .int v :: [])) (pc' := 104) ci_8 (fun t => c_X7_skips G t (44 : Int32)) cw_X7_skips rfl rfl tw500 pw10 tw502 rfl rfl cat_nil rfl (fun _ => rfl) dX7_readsGroup_101 rfl (fun v7 => ?_)
      refine sn_if_eq (pt := 117) (pf := 107) dX7_readsGroup_104 rfl rfl ?_ ?_
      · exact sn_weak (le_s (le_n le_e)) (s_X7_readsGroup_117 G this)
      · refine sn_aload_n (v := (some this)) (pc' := 108) dX7_readsGroup_107 rfl rfl rfl ?_
        refine sn_iconst (v := (2 : Int32)) (pc' := 109) dX7_readsGroup_108 rfl (by decide) ?_
        refine sn_cV (r := (some this)) (st := []) (As := [.int (2 : Int32)]) (st2 := (fun v => .int v :: [])) (pc' := 112) ci_8 (fun t => c_X7_takes G t (2 : Int32)) cw_X7_takes rfl rfl tw491 pw9 tw493 rfl rfl cat_nil rfl (fun _ => rfl) dX7_readsGroup_109 rfl (fun v8 => ?_)
        refine sn_if_ne (pt := 117) (pf := 115) dX7_readsGroup_112 rfl rfl ?_ ?_
        · refine sn_iconst (v := (0 : Int32)) (pc' := 116) dX7_readsGroup_115 rfl (by decide) ?_
          exact sn_iret dX7_readsGroup_116 rfl (by decide)
        · exact sn_weak (le_s (le_n le_e)) (s_X7_readsGroup_117 G this)
set_option maxRecDepth 100000 in
set_option maxHeartbeats 4000000 in
theorem s_X7_readsGroup_46 (G : GG)   (this : Nat) (x1 : Int32) : Sn G yX7_readsGroup cX7_readsGroup 2 (some FieldType.boolean) 4 84 (fun v : Int32 => some (.int v)) (X7_readsGroup_46  this x1) 46 [some (va_rf (some this)), some (.int x1)] [] := by
  unfold X7_readsGroup_46
  refine sn_aload_n (v := (some this)) (pc' := 47) dX7_readsGroup_46 rfl rfl rfl ?_
  refine sn_gR (k := 1) (pc' := 50) ci_8 rfl (Or.inl tw158) dX7_readsGroup_47 rfl (fun v1 => ?_)
  refine sn_gR (k := 1) (pc' := 53) ci_5 rfl (Or.inr ⟨_, nw104⟩) dX7_readsGroup_50 rfl (fun v2 => ?_)
  refine sn_iload_n (v := x1) (pc' := 54) dX7_readsGroup_53 rfl rfl rfl ?_
  refine sn_if_eq (pt := 64) (pf := 57) dX7_readsGroup_54 rfl rfl ?_ ?_
  · refine sn_iconst (v := (-1 : Int32)) (pc' := 65) dX7_readsGroup_64 rfl (by decide) ?_
    exact sn_weak (le_s (le_s le_e)) (s_X7_readsGroup_65 G this x1 (-1 : Int32) v2)
  · refine sn_aload_n (v := (some this)) (pc' := 58) dX7_readsGroup_57 rfl rfl rfl ?_
    refine sn_gI (k := 4) (pc' := 61) ci_8 rfl (Or.inl tw164) dX7_readsGroup_58 rfl (fun v3 => ?_)
    refine sn_goto (pc' := 65) dX7_readsGroup_61 rfl ?_
    exact sn_weak (le_s (le_s le_e)) (s_X7_readsGroup_65 G this x1 v3 v2)
set_option maxRecDepth 100000 in
set_option maxHeartbeats 4000000 in
theorem s_X7_readsGroup (G : GG) (this : Nat) : Sn G yX7_readsGroup cX7_readsGroup 2 (some FieldType.boolean) 4 84 (fun v : Int32 => some (.int v)) (X7_readsGroup this) 0 [some (va_rf (some this)), none] [] := by
  unfold X7_readsGroup
  refine sn_aload_n (v := (some this)) (pc' := 1) dX7_readsGroup_0 rfl rfl rfl ?_
  refine sn_iconst (v := (1 : Int32)) (pc' := 2) dX7_readsGroup_1 rfl (by decide) ?_
  refine sn_cV (r := (some this)) (st := []) (As := [.int (1 : Int32)]) (st2 := (fun v => .int v :: [])) (pc' := 5) ci_8 (fun t => c_X7_takes G t (1 : Int32)) cw_X7_takes rfl rfl tw491 pw9 tw493 rfl rfl cat_nil rfl (fun _ => rfl) dX7_readsGroup_2 rfl (fun v1 => ?_)
  refine sn_if_ne (pt := 10) (pf := 8) dX7_readsGroup_5 rfl rfl ?_ ?_
  · refine sn_iconst (v := (0 : Int32)) (pc' := 9) dX7_readsGroup_8 rfl (by decide) ?_
    exact sn_iret dX7_readsGroup_9 rfl (by decide)
  · refine sn_aload_n (v := (some this)) (pc' := 11) dX7_readsGroup_10 rfl rfl rfl ?_
    refine sn_gR (k := 1) (pc' := 14) ci_8 rfl (Or.inl tw158) dX7_readsGroup_11 rfl (fun v2 => ?_)
    refine sn_gR (k := 0) (pc' := 17) ci_5 rfl (Or.inr ⟨_, nw101⟩) dX7_readsGroup_14 rfl (fun v3 => ?_)
    refine sn_aload_n (v := (some this)) (pc' := 18) dX7_readsGroup_17 rfl rfl rfl ?_
    refine sn_gI (k := 4) (pc' := 21) ci_8 rfl (Or.inl tw164) dX7_readsGroup_18 rfl (fun v4 => ?_)
    refine sn_cV (r := v3) (st := []) (As := [.int v4]) (st2 := (fun v => .int v :: [])) (pc' := 24) ci_9 (fun t => c_X8_add G t v4) cw_X8_add rfl rfl tw499 tw484 tw483 rfl rfl cat_nil rfl (fun _ => rfl) dX7_readsGroup_21 rfl (fun v5 => ?_)
    refine sn_pop (pc' := 25) dX7_readsGroup_24 rfl rfl ?_
    refine sn_aload_n (v := (some this)) (pc' := 26) dX7_readsGroup_25 rfl rfl rfl ?_
    refine sn_bipush (v := (45 : Int32)) (pc' := 28) dX7_readsGroup_26 rfl (by decide) ?_
    refine sn_cV (r := (some this)) (st := []) (As := [.int (45 : Int32)]) (st2 := (fun v => .int v :: [])) (pc' := 31) ci_8 (fun t => c_X7_skips G t (45 : Int32)) cw_X7_skips rfl rfl tw500 pw10 tw502 rfl rfl cat_nil rfl (fun _ => rfl) dX7_readsGroup_28 rfl (fun v6 => ?_)
    refine sn_istore_n (v := v6) (L' := [some (va_rf (some this)), some (.int v6)]) (pc' := 32) dX7_readsGroup_31 rfl rfl rfl rfl ?_
    refine sn_iload_n (v := v6) (pc' := 33) dX7_readsGroup_32 rfl rfl rfl ?_
    refine sn_if_eq (pt := 46) (pf := 36) dX7_readsGroup_33 rfl rfl ?_ ?_
    · exact sn_weak (le_s (le_s le_e)) (s_X7_readsGroup_46 G this v6)
    · refine sn_aload_n (v := (some this)) (pc' := 37) dX7_readsGroup_36 rfl rfl rfl ?_
      refine sn_iconst (v := (1 : Int32)) (pc' := 38) dX7_readsGroup_37 rfl (by decide) ?_
      refine sn_cV (r := (some this)) (st := []) (As := [.int (1 : Int32)]) (st2 := (fun v => .int v :: [])) (pc' := 41) ci_8 (fun t => c_X7_takes G t (1 : Int32)) cw_X7_takes rfl rfl tw491 pw9 tw493 rfl rfl cat_nil rfl (fun _ => rfl) dX7_readsGroup_38 rfl (fun v7 => ?_)
      refine sn_if_ne (pt := 46) (pf := 44) dX7_readsGroup_41 rfl rfl ?_ ?_
      · refine sn_iconst (v := (0 : Int32)) (pc' := 45) dX7_readsGroup_44 rfl (by decide) ?_
        exact sn_iret dX7_readsGroup_45 rfl (by decide)
      · exact sn_weak (le_s (le_s le_e)) (s_X7_readsGroup_46 G this v6)
theorem c_X7_readsGroup (G : GG) (this : Nat) : Cal G yX7_readsGroup cX7_readsGroup 2 (some FieldType.boolean) 4 84 (fun v : Int32 => some (.int v)) (X7_readsGroup this) [.ref this] :=
  Cal.of (by decide) (cat_t cat_nil) rfl (sn_weak (le_s (le_z le_e)) (s_X7_readsGroup G this))
theorem cw_X7_readsGroup : CW yX7_readsGroup cX7_readsGroup 2 (some FieldType.boolean) 0 := ⟨tw490, tw5, by decide, by decide +kernel⟩
/-! X7_readsFormula -/
theorem dX7_readsFormula_0 : decode cX7_readsFormula 0 = .ok (.aload_n 0, 1) := by decide +kernel
theorem dX7_readsFormula_1 : decode cX7_readsFormula 1 = .ok (.invokevirtual 33, 3) := by decide +kernel
theorem dX7_readsFormula_4 : decode cX7_readsFormula 4 = .ok (.iconst 0, 1) := by decide +kernel
theorem dX7_readsFormula_5 : decode cX7_readsFormula 5 = .ok (.istore_n 1, 1) := by decide +kernel
theorem dX7_readsFormula_6 : decode cX7_readsFormula 6 = .ok (.iload_n 1, 1) := by decide +kernel
theorem dX7_readsFormula_7 : decode cX7_readsFormula 7 = .ok (.bipush 121, 2) := by decide +kernel
theorem dX7_readsFormula_9 : decode cX7_readsFormula 9 = .ok (.if_icmp .ge 28, 3) := by decide +kernel
theorem dX7_readsFormula_12 : decode cX7_readsFormula 12 = .ok (.aload_n 0, 1) := by decide +kernel
theorem dX7_readsFormula_13 : decode cX7_readsFormula 13 = .ok (.invokevirtual 36, 3) := by decide +kernel
theorem dX7_readsFormula_16 : decode cX7_readsFormula 16 = .ok (.ifCond .ne 5, 3) := by decide +kernel
theorem dX7_readsFormula_19 : decode cX7_readsFormula 19 = .ok (.iconst 0, 1) := by decide +kernel
theorem dX7_readsFormula_20 : decode cX7_readsFormula 20 = .ok (.ireturn, 1) := by decide +kernel
theorem dX7_readsFormula_21 : decode cX7_readsFormula 21 = .ok (.aload_n 0, 1) := by decide +kernel
theorem dX7_readsFormula_22 : decode cX7_readsFormula 22 = .ok (.iconst 0, 1) := by decide +kernel
theorem dX7_readsFormula_23 : decode cX7_readsFormula 23 = .ok (.invokevirtual 40, 3) := by decide +kernel
theorem dX7_readsFormula_26 : decode cX7_readsFormula 26 = .ok (.ifCond .eq 5, 3) := by decide +kernel
theorem dX7_readsFormula_29 : decode cX7_readsFormula 29 = .ok (.iconst 1, 1) := by decide +kernel
theorem dX7_readsFormula_30 : decode cX7_readsFormula 30 = .ok (.ireturn, 1) := by decide +kernel
theorem dX7_readsFormula_31 : decode cX7_readsFormula 31 = .ok (.iinc 1 1, 3) := by decide +kernel
theorem dX7_readsFormula_34 : decode cX7_readsFormula 34 = .ok (.goto (-28), 3) := by decide +kernel
theorem dX7_readsFormula_37 : decode cX7_readsFormula 37 = .ok (.iconst 0, 1) := by decide +kernel
theorem dX7_readsFormula_38 : decode cX7_readsFormula 38 = .ok (.ireturn, 1) := by decide +kernel
def X7_readsFormula_6_st  (k6 : Nat → Int32 → MM Int32) (this : Nat) (x1 : Int32) : MM Int32 :=
  if (121 : Int32) ≤ x1 then (mr (0 : Int32)) else (mb (wc 8 (some this) fun t => X7_readsGroup t ) fun v1 =>
  if v1 = 0 then (mr (0 : Int32)) else (mb (wc 8 (some this) fun t => X7_skips t (0 : Int32)) fun v2 =>
  if v2 = 0 then ((k6 this (x1 + (1 : Int32)))) else (mr (1 : Int32))))
def X7_readsFormula_6  : Nat → Nat → Int32 → MM Int32
  | 0 => fun _ _ => mf
  | n + 1 => fun this x1 => X7_readsFormula_6_st  (X7_readsFormula_6  n) this x1
def X7_readsFormula (this : Nat) : MM Int32 :=
  mb (wc 8 (some this) fun t => X7_begin t ) fun _ =>
  (X7_readsFormula_6 LFU this (0 : Int32))
set_option maxRecDepth 100000 in
set_option maxHeartbeats 4000000 in
theorem s_X7_readsFormula_6_st (G : GG)   (k6 : Nat → Int32 → MM Int32) (hk6 : ∀ (this : Nat) (x1 : Int32), Sn G yX7_readsFormula cX7_readsFormula 2 (some FieldType.boolean) 8 184 (fun v : Int32 => some (.int v)) (k6 this x1) 6 [some (va_rf (some this)), some (.int x1)] []) (this : Nat) (x1 : Int32) : Sn G yX7_readsFormula cX7_readsFormula 2 (some FieldType.boolean) 8 184 (fun v : Int32 => some (.int v)) (X7_readsFormula_6_st  k6 this x1) 6 [some (va_rf (some this)), some (.int x1)] [] := by
  unfold X7_readsFormula_6_st
  refine sn_iload_n (v := x1) (pc' := 7) dX7_readsFormula_6 rfl rfl rfl ?_
  refine sn_bipush (v := (121 : Int32)) (pc' := 9) dX7_readsFormula_7 rfl (by decide) ?_
  refine sn_ic_ge (pt := 37) (pf := 12) dX7_readsFormula_9 rfl rfl ?_ ?_
  · refine sn_iconst (v := (0 : Int32)) (pc' := 38) dX7_readsFormula_37 rfl (by decide) ?_
    exact sn_iret dX7_readsFormula_38 rfl (by decide)
  · refine sn_aload_n (v := (some this)) (pc' := 13) dX7_readsFormula_12 rfl rfl rfl ?_
    refine sn_cV (r := (some this)) (st := []) (As := []) (st2 := (fun v => .int v :: [])) (pc' := 16) ci_8 (fun t => c_X7_readsGroup G t ) cw_X7_readsGroup rfl rfl tw487 pw8 tw489 rfl rfl cat_nil rfl (fun _ => rfl) dX7_readsFormula_13 rfl (fun v1 => ?_)
    refine sn_if_ne (pt := 21) (pf := 19) dX7_readsFormula_16 rfl rfl ?_ ?_
    · refine sn_iconst (v := (0 : Int32)) (pc' := 20) dX7_readsFormula_19 rfl (by decide) ?_
      exact sn_iret dX7_readsFormula_20 rfl (by decide)
    · refine sn_aload_n (v := (some this)) (pc' := 22) dX7_readsFormula_21 rfl rfl rfl ?_
      refine sn_iconst (v := (0 : Int32)) (pc' := 23) dX7_readsFormula_22 rfl (by decide) ?_
      refine sn_cV (r := (some this)) (st := []) (As := [.int (0 : Int32)]) (st2 := (fun v => .int v :: [])) (pc' := 26) ci_8 (fun t => c_X7_skips G t (0 : Int32)) cw_X7_skips rfl rfl tw500 pw10 tw502 rfl rfl cat_nil rfl (fun _ => rfl) dX7_readsFormula_23 rfl (fun v2 => ?_)
      refine sn_if_eq (pt := 31) (pf := 29) dX7_readsFormula_26 rfl rfl ?_ ?_
      · refine sn_iinc (v := x1) (w := 1) (L' := [some (va_rf (some this)), some (.int (x1 + (1 : Int32)))]) (pc' := 34) dX7_readsFormula_31 rfl rfl rfl (by decide) rfl ?_
        refine sn_goto (pc' := 6) dX7_readsFormula_34 rfl ?_
        exact sn_weak (le_s (le_s le_e)) (hk6 this (x1 + (1 : Int32)))
      · refine sn_iconst (v := (1 : Int32)) (pc' := 30) dX7_readsFormula_29 rfl (by decide) ?_
        exact sn_iret dX7_readsFormula_30 rfl (by decide)
set_option maxRecDepth 100000 in
set_option maxHeartbeats 4000000 in
theorem s_X7_readsFormula_6 (G : GG)   : ∀ (n : Nat) (this : Nat) (x1 : Int32), Sn G yX7_readsFormula cX7_readsFormula 2 (some FieldType.boolean) 8 184 (fun v : Int32 => some (.int v)) (X7_readsFormula_6  n this x1) 6 [some (va_rf (some this)), some (.int x1)] [] := by
  intro n
  induction n with
  | zero => intro this x1; exact sn_mf
  | succ n ih => intro this x1; exact s_X7_readsFormula_6_st G   (X7_readsFormula_6  n) ih this x1
set_option maxRecDepth 100000 in
set_option maxHeartbeats 4000000 in
theorem s_X7_readsFormula (G : GG) (this : Nat) : Sn G yX7_readsFormula cX7_readsFormula 2 (some FieldType.boolean) 8 184 (fun v : Int32 => some (.int v)) (X7_readsFormula this) 0 [some (va_rf (some this)), none] [] := by
  unfold X7_readsFormula
  refine sn_aload_n (v := (some this)) (pc' := 1) dX7_readsFormula_0 rfl rfl rfl ?_
  refine sn_cV (r := (some this)) (st := []) (As := []) (st2 := (fun _ => [])) (pc' := 4) ci_8 (fun t => c_X7_begin G t ) cw_X7_begin rfl rfl tw346 pw2 tw348 rfl rfl cat_nil rfl (fun _ => rfl) dX7_readsFormula_1 rfl (fun _ => ?_)
  refine sn_iconst (v := (0 : Int32)) (pc' := 5) dX7_readsFormula_4 rfl (by decide) ?_
  refine sn_istore_n (v := (0 : Int32)) (L' := [some (va_rf (some this)), some (.int (0 : Int32))]) (pc' := 6) dX7_readsFormula_5 rfl rfl rfl rfl ?_
  exact sn_weak (le_s (le_s le_e)) (s_X7_readsFormula_6 G LFU this (0 : Int32))
theorem c_X7_readsFormula (G : GG) (this : Nat) : Cal G yX7_readsFormula cX7_readsFormula 2 (some FieldType.boolean) 8 184 (fun v : Int32 => some (.int v)) (X7_readsFormula this) [.ref this] :=
  Cal.of (by decide) (cat_t cat_nil) rfl (sn_weak (le_s (le_z le_e)) (s_X7_readsFormula G this))
theorem cw_X7_readsFormula : CW yX7_readsFormula cX7_readsFormula 2 (some FieldType.boolean) 0 := ⟨tw345, tw5, by decide, by decide +kernel⟩
/-! J7_fill_53178 -/
theorem dJ7_fill_53178_0 : decode cJ7_fill_53178 0 = .ok (.iconst 0, 1) := by decide +kernel
theorem dJ7_fill_53178_1 : decode cJ7_fill_53178 1 = .ok (.istore_n 2, 1) := by decide +kernel
theorem dJ7_fill_53178_2 : decode cJ7_fill_53178 2 = .ok (.aload_n 0, 1) := by decide +kernel
theorem dJ7_fill_53178_3 : decode cJ7_fill_53178 3 = .ok (.arraylength, 1) := by decide +kernel
theorem dJ7_fill_53178_4 : decode cJ7_fill_53178 4 = .ok (.istore_n 3, 1) := by decide +kernel
theorem dJ7_fill_53178_5 : decode cJ7_fill_53178 5 = .ok (.iload_n 2, 1) := by decide +kernel
theorem dJ7_fill_53178_6 : decode cJ7_fill_53178 6 = .ok (.iload_n 3, 1) := by decide +kernel
theorem dJ7_fill_53178_7 : decode cJ7_fill_53178 7 = .ok (.if_icmp .ge 13, 3) := by decide +kernel
theorem dJ7_fill_53178_10 : decode cJ7_fill_53178 10 = .ok (.aload_n 0, 1) := by decide +kernel
theorem dJ7_fill_53178_11 : decode cJ7_fill_53178 11 = .ok (.iload_n 2, 1) := by decide +kernel
theorem dJ7_fill_53178_12 : decode cJ7_fill_53178 12 = .ok (.iload_n 1, 1) := by decide +kernel
theorem dJ7_fill_53178_13 : decode cJ7_fill_53178 13 = .ok (.iastore, 1) := by decide +kernel
theorem dJ7_fill_53178_14 : decode cJ7_fill_53178 14 = .ok (.iinc 2 1, 3) := by decide +kernel
theorem dJ7_fill_53178_17 : decode cJ7_fill_53178 17 = .ok (.goto (-12), 3) := by decide +kernel
theorem dJ7_fill_53178_20 : decode cJ7_fill_53178 20 = .ok (.return_, 1) := by decide +kernel
def J7_fill_53178_5_st  (k5 : Option Nat → Int32 → Int32 → Int32 → MM Unit) (x0 : Option Nat) (x1 : Int32) (x2 : Int32) (x3 : Int32) : MM Unit :=
  if x3 ≤ x2 then (mr ()) else (mb (sI x0 x2 x1) fun _ =>
  (k5 x0 x1 (x2 + (1 : Int32)) x3))
def J7_fill_53178_5  : Nat → Option Nat → Int32 → Int32 → Int32 → MM Unit
  | 0 => fun _ _ _ _ => mf
  | n + 1 => fun x0 x1 x2 x3 => J7_fill_53178_5_st  (J7_fill_53178_5  n) x0 x1 x2 x3
def J7_fill_53178 (a0 : Option Nat) (a1 : Int32) : MM Unit :=
  mb (aN a0) fun v1 =>
  (J7_fill_53178_5 LFU a0 a1 (0 : Int32) v1)
set_option maxRecDepth 100000 in
set_option maxHeartbeats 4000000 in
theorem s_J7_fill_53178_5_st (G : GG)   (k5 : Option Nat → Int32 → Int32 → Int32 → MM Unit) (hk5 : ∀ (x0 : Option Nat) (x1 : Int32) (x2 : Int32) (x3 : Int32), Sn G yJ7_fill_53178 cJ7_fill_53178 4 none 0 0 (fun _ : Unit => none) (k5 x0 x1 x2 x3) 5 [some (va_rf x0), some (.int x1), some (.int x2), some (.int x3)] []) (x0 : Option Nat) (x1 : Int32) (x2 : Int32) (x3 : Int32) : Sn G yJ7_fill_53178 cJ7_fill_53178 4 none 0 0 (fun _ : Unit => none) (J7_fill_53178_5_st  k5 x0 x1 x2 x3) 5 [some (va_rf x0), some (.int x1), some (.int x2), some (.int x3)] [] := by
  unfold J7_fill_53178_5_st
  refine sn_iload_n (v := x2) (pc' := 6) dJ7_fill_53178_5 rfl rfl rfl ?_
  refine sn_iload_n (v := x3) (pc' := 7) dJ7_fill_53178_6 rfl rfl rfl ?_
  refine sn_ic_ge (pt := 20) (pf := 10) dJ7_fill_53178_7 rfl rfl ?_ ?_
  · exact sn_vret dJ7_fill_53178_20 rfl
  · refine sn_aload_n (v := x0) (pc' := 11) dJ7_fill_53178_10 rfl rfl rfl ?_
    refine sn_iload_n (v := x2) (pc' := 12) dJ7_fill_53178_11 rfl rfl rfl ?_
    refine sn_iload_n (v := x1) (pc' := 13) dJ7_fill_53178_12 rfl rfl rfl ?_
    refine sn_sI (pc' := 14) dJ7_fill_53178_13 rfl (fun _ => ?_)
    refine sn_iinc (v := x2) (w := 1) (L' := [some (va_rf x0), some (.int x1), some (.int (x2 + (1 : Int32))), some (.int x3)]) (pc' := 17) dJ7_fill_53178_14 rfl rfl rfl (by decide) rfl ?_
    refine sn_goto (pc' := 5) dJ7_fill_53178_17 rfl ?_
    exact sn_weak (le_s (le_s (le_s (le_s le_e)))) (hk5 x0 x1 (x2 + (1 : Int32)) x3)
set_option maxRecDepth 100000 in
set_option maxHeartbeats 4000000 in
theorem s_J7_fill_53178_5 (G : GG)   : ∀ (n : Nat) (x0 : Option Nat) (x1 : Int32) (x2 : Int32) (x3 : Int32), Sn G yJ7_fill_53178 cJ7_fill_53178 4 none 0 0 (fun _ : Unit => none) (J7_fill_53178_5  n x0 x1 x2 x3) 5 [some (va_rf x0), some (.int x1), some (.int x2), some (.int x3)] [] := by
  intro n
  induction n with
  | zero => intro x0 x1 x2 x3; exact sn_mf
  | succ n ih => intro x0 x1 x2 x3; exact s_J7_fill_53178_5_st G   (J7_fill_53178_5  n) ih x0 x1 x2 x3
set_option maxRecDepth 100000 in
set_option maxHeartbeats 4000000 in
theorem s_J7_fill_53178 (G : GG) (a0 : Option Nat) (a1 : Int32) : Sn G yJ7_fill_53178 cJ7_fill_53178 4 none 0 0 (fun _ : Unit => none) (J7_fill_53178 a0 a1) 0 [some (va_rf a0), some (.int a1), none, none] [] := by
  unfold J7_fill_53178
  refine sn_iconst (v := (0 : Int32)) (pc' := 1) dJ7_fill_53178_0 rfl (by decide) ?_
  refine sn_istore_n (v := (0 : Int32)) (L' := [some (va_rf a0), some (.int a1), some (.int (0 : Int32)), none]) (pc' := 2) dJ7_fill_53178_1 rfl rfl rfl rfl ?_
  refine sn_aload_n (v := a0) (pc' := 3) dJ7_fill_53178_2 rfl rfl rfl ?_
  refine sn_aN (pc' := 4) dJ7_fill_53178_3 rfl (fun v1 => ?_)
  refine sn_istore_n (v := v1) (L' := [some (va_rf a0), some (.int a1), some (.int (0 : Int32)), some (.int v1)]) (pc' := 5) dJ7_fill_53178_4 rfl rfl rfl rfl ?_
  exact sn_weak (le_s (le_s (le_s (le_s le_e)))) (s_J7_fill_53178_5 G LFU a0 a1 (0 : Int32) v1)
theorem c_J7_fill_53178 (G : GG) (a0 : Option Nat) (a1 : Int32) : Cal G yJ7_fill_53178 cJ7_fill_53178 4 none 0 0 (fun _ : Unit => none) (J7_fill_53178 a0 a1) [va_rf a0, .int a1] :=
  Cal.of (by decide) (cat_q (cat_i cat_nil)) rfl (sn_weak (le_s (le_s (le_z (le_z le_e)))) (s_J7_fill_53178 G a0 a1))
theorem cw_J7_fill_53178 : CW yJ7_fill_53178 cJ7_fill_53178 4 none 2 := ⟨tw529, tw20, by decide, by decide +kernel⟩
/-! J7_fill_031fb -/
theorem dJ7_fill_031fb_0 : decode cJ7_fill_031fb 0 = .ok (.iconst 0, 1) := by decide +kernel
theorem dJ7_fill_031fb_1 : decode cJ7_fill_031fb 1 = .ok (.istore_n 2, 1) := by decide +kernel
theorem dJ7_fill_031fb_2 : decode cJ7_fill_031fb 2 = .ok (.aload_n 0, 1) := by decide +kernel
theorem dJ7_fill_031fb_3 : decode cJ7_fill_031fb 3 = .ok (.arraylength, 1) := by decide +kernel
theorem dJ7_fill_031fb_4 : decode cJ7_fill_031fb 4 = .ok (.istore_n 3, 1) := by decide +kernel
theorem dJ7_fill_031fb_5 : decode cJ7_fill_031fb 5 = .ok (.iload_n 2, 1) := by decide +kernel
theorem dJ7_fill_031fb_6 : decode cJ7_fill_031fb 6 = .ok (.iload_n 3, 1) := by decide +kernel
theorem dJ7_fill_031fb_7 : decode cJ7_fill_031fb 7 = .ok (.if_icmp .ge 13, 3) := by decide +kernel
theorem dJ7_fill_031fb_10 : decode cJ7_fill_031fb 10 = .ok (.aload_n 0, 1) := by decide +kernel
theorem dJ7_fill_031fb_11 : decode cJ7_fill_031fb 11 = .ok (.iload_n 2, 1) := by decide +kernel
theorem dJ7_fill_031fb_12 : decode cJ7_fill_031fb 12 = .ok (.iload_n 1, 1) := by decide +kernel
theorem dJ7_fill_031fb_13 : decode cJ7_fill_031fb 13 = .ok (.bastore, 1) := by decide +kernel
theorem dJ7_fill_031fb_14 : decode cJ7_fill_031fb 14 = .ok (.iinc 2 1, 3) := by decide +kernel
theorem dJ7_fill_031fb_17 : decode cJ7_fill_031fb 17 = .ok (.goto (-12), 3) := by decide +kernel
theorem dJ7_fill_031fb_20 : decode cJ7_fill_031fb 20 = .ok (.return_, 1) := by decide +kernel
def J7_fill_031fb_5_st  (k5 : Option Nat → Int32 → Int32 → Int32 → MM Unit) (x0 : Option Nat) (x1 : Int32) (x2 : Int32) (x3 : Int32) : MM Unit :=
  if x3 ≤ x2 then (mr ()) else (mb (sB x0 x2 x1) fun _ =>
  (k5 x0 x1 (x2 + (1 : Int32)) x3))
def J7_fill_031fb_5  : Nat → Option Nat → Int32 → Int32 → Int32 → MM Unit
  | 0 => fun _ _ _ _ => mf
  | n + 1 => fun x0 x1 x2 x3 => J7_fill_031fb_5_st  (J7_fill_031fb_5  n) x0 x1 x2 x3
def J7_fill_031fb (a0 : Option Nat) (a1 : Int32) : MM Unit :=
  mb (aN a0) fun v1 =>
  (J7_fill_031fb_5 LFU a0 a1 (0 : Int32) v1)
set_option maxRecDepth 100000 in
set_option maxHeartbeats 4000000 in
theorem s_J7_fill_031fb_5_st (G : GG)   (k5 : Option Nat → Int32 → Int32 → Int32 → MM Unit) (hk5 : ∀ (x0 : Option Nat) (x1 : Int32) (x2 : Int32) (x3 : Int32), Sn G yJ7_fill_031fb cJ7_fill_031fb 4 none 0 0 (fun _ : Unit => none) (k5 x0 x1 x2 x3) 5 [some (va_rf x0), some (.int x1), some (.int x2), some (.int x3)] []) (x0 : Option Nat) (x1 : Int32) (x2 : Int32) (x3 : Int32) : Sn G yJ7_fill_031fb cJ7_fill_031fb 4 none 0 0 (fun _ : Unit => none) (J7_fill_031fb_5_st  k5 x0 x1 x2 x3) 5 [some (va_rf x0), some (.int x1), some (.int x2), some (.int x3)] [] := by
  unfold J7_fill_031fb_5_st
  refine sn_iload_n (v := x2) (pc' := 6) dJ7_fill_031fb_5 rfl rfl rfl ?_
  refine sn_iload_n (v := x3) (pc' := 7) dJ7_fill_031fb_6 rfl rfl rfl ?_
  refine sn_ic_ge (pt := 20) (pf := 10) dJ7_fill_031fb_7 rfl rfl ?_ ?_
  · exact sn_vret dJ7_fill_031fb_20 rfl
  · refine sn_aload_n (v := x0) (pc' := 11) dJ7_fill_031fb_10 rfl rfl rfl ?_
    refine sn_iload_n (v := x2) (pc' := 12) dJ7_fill_031fb_11 rfl rfl rfl ?_
    refine sn_iload_n (v := x1) (pc' := 13) dJ7_fill_031fb_12 rfl rfl rfl ?_
    refine sn_sB (pc' := 14) dJ7_fill_031fb_13 rfl (fun _ => ?_)
    refine sn_iinc (v := x2) (w := 1) (L' := [some (va_rf x0), some (.int x1), some (.int (x2 + (1 : Int32))), some (.int x3)]) (pc' := 17) dJ7_fill_031fb_14 rfl rfl rfl (by decide) rfl ?_
    refine sn_goto (pc' := 5) dJ7_fill_031fb_17 rfl ?_
    exact sn_weak (le_s (le_s (le_s (le_s le_e)))) (hk5 x0 x1 (x2 + (1 : Int32)) x3)
set_option maxRecDepth 100000 in
set_option maxHeartbeats 4000000 in
theorem s_J7_fill_031fb_5 (G : GG)   : ∀ (n : Nat) (x0 : Option Nat) (x1 : Int32) (x2 : Int32) (x3 : Int32), Sn G yJ7_fill_031fb cJ7_fill_031fb 4 none 0 0 (fun _ : Unit => none) (J7_fill_031fb_5  n x0 x1 x2 x3) 5 [some (va_rf x0), some (.int x1), some (.int x2), some (.int x3)] [] := by
  intro n
  induction n with
  | zero => intro x0 x1 x2 x3; exact sn_mf
  | succ n ih => intro x0 x1 x2 x3; exact s_J7_fill_031fb_5_st G   (J7_fill_031fb_5  n) ih x0 x1 x2 x3
set_option maxRecDepth 100000 in
set_option maxHeartbeats 4000000 in
theorem s_J7_fill_031fb (G : GG) (a0 : Option Nat) (a1 : Int32) : Sn G yJ7_fill_031fb cJ7_fill_031fb 4 none 0 0 (fun _ : Unit => none) (J7_fill_031fb a0 a1) 0 [some (va_rf a0), some (.int a1), none, none] [] := by
  unfold J7_fill_031fb
  refine sn_iconst (v := (0 : Int32)) (pc' := 1) dJ7_fill_031fb_0 rfl (by decide) ?_
  refine sn_istore_n (v := (0 : Int32)) (L' := [some (va_rf a0), some (.int a1), some (.int (0 : Int32)), none]) (pc' := 2) dJ7_fill_031fb_1 rfl rfl rfl rfl ?_
  refine sn_aload_n (v := a0) (pc' := 3) dJ7_fill_031fb_2 rfl rfl rfl ?_
  refine sn_aN (pc' := 4) dJ7_fill_031fb_3 rfl (fun v1 => ?_)
  refine sn_istore_n (v := v1) (L' := [some (va_rf a0), some (.int a1), some (.int (0 : Int32)), some (.int v1)]) (pc' := 5) dJ7_fill_031fb_4 rfl rfl rfl rfl ?_
  exact sn_weak (le_s (le_s (le_s (le_s le_e)))) (s_J7_fill_031fb_5 G LFU a0 a1 (0 : Int32) v1)
theorem c_J7_fill_031fb (G : GG) (a0 : Option Nat) (a1 : Int32) : Cal G yJ7_fill_031fb cJ7_fill_031fb 4 none 0 0 (fun _ : Unit => none) (J7_fill_031fb a0 a1) [va_rf a0, .int a1] :=
  Cal.of (by decide) (cat_q (cat_i cat_nil)) rfl (sn_weak (le_s (le_s (le_z (le_z le_e)))) (s_J7_fill_031fb G a0 a1))
theorem cw_J7_fill_031fb : CW yJ7_fill_031fb cJ7_fill_031fb 4 none 2 := ⟨tw532, tw20, by decide, by decide +kernel⟩
/-! X6_clear -/
theorem dX6_clear_0 : decode cX6_clear 0 = .ok (.aload_n 0, 1) := by decide +kernel
theorem dX6_clear_1 : decode cX6_clear 1 = .ok (.getfield 15, 3) := by decide +kernel
theorem dX6_clear_4 : decode cX6_clear 4 = .ok (.iconst 0, 1) := by decide +kernel
theorem dX6_clear_5 : decode cX6_clear 5 = .ok (.invokestatic 29, 3) := by decide +kernel
theorem dX6_clear_8 : decode cX6_clear 8 = .ok (.aload_n 0, 1) := by decide +kernel
theorem dX6_clear_9 : decode cX6_clear 9 = .ok (.getfield 18, 3) := by decide +kernel
theorem dX6_clear_12 : decode cX6_clear 12 = .ok (.iconst 0, 1) := by decide +kernel
theorem dX6_clear_13 : decode cX6_clear 13 = .ok (.invokestatic 35, 3) := by decide +kernel
theorem dX6_clear_16 : decode cX6_clear 16 = .ok (.aload_n 0, 1) := by decide +kernel
theorem dX6_clear_17 : decode cX6_clear 17 = .ok (.getfield 22, 3) := by decide +kernel
theorem dX6_clear_20 : decode cX6_clear 20 = .ok (.iconst 0, 1) := by decide +kernel
theorem dX6_clear_21 : decode cX6_clear 21 = .ok (.invokestatic 35, 3) := by decide +kernel
theorem dX6_clear_24 : decode cX6_clear 24 = .ok (.aload_n 0, 1) := by decide +kernel
theorem dX6_clear_25 : decode cX6_clear 25 = .ok (.iconst 0, 1) := by decide +kernel
theorem dX6_clear_26 : decode cX6_clear 26 = .ok (.putfield 38, 3) := by decide +kernel
theorem dX6_clear_29 : decode cX6_clear 29 = .ok (.aload_n 0, 1) := by decide +kernel
theorem dX6_clear_30 : decode cX6_clear 30 = .ok (.iconst (-1), 1) := by decide +kernel
theorem dX6_clear_31 : decode cX6_clear 31 = .ok (.putfield 25, 3) := by decide +kernel
theorem dX6_clear_34 : decode cX6_clear 34 = .ok (.return_, 1) := by decide +kernel
def X6_clear (this : Nat) : MM Unit :=
  mb (gR 7 (some this) 1) fun v1 =>
  mb (J7_fill_53178 v1 (0 : Int32)) fun _ =>
  mb (gR 7 (some this) 2) fun v2 =>
  mb (J7_fill_031fb v2 (0 : Int32)) fun _ =>
  mb (gR 7 (some this) 3) fun v3 =>
  mb (J7_fill_031fb v3 (0 : Int32)) fun _ =>
  mb (pI 7 (some this) 4 (0 : Int32)) fun _ =>
  mb (pI 7 (some this) 5 (-1 : Int32)) fun _ =>
  mr ()
set_option maxRecDepth 100000 in
set_option maxHeartbeats 4000000 in
theorem s_X6_clear (G : GG) (this : Nat) : Sn G yX6_clear cX6_clear 1 none 1 23 (fun _ : Unit => none) (X6_clear this) 0 [some (va_rf (some this))] [] := by
  unfold X6_clear
  refine sn_aload_n (v := (some this)) (pc' := 1) dX6_clear_0 rfl rfl rfl ?_
  refine sn_gR (k := 1) (pc' := 4) ci_7 rfl (Or.inl tw187) dX6_clear_1 rfl (fun v1 => ?_)
  refine sn_iconst (v := (0 : Int32)) (pc' := 5) dX6_clear_4 rfl (by decide) ?_
  refine sn_cS (st := []) (As := [va_rf v1, .int (0 : Int32)]) (st2 := (fun _ => [])) (pc' := 8) (c_J7_fill_53178 G v1 (0 : Int32)) cw_J7_fill_53178 rfl rfl tw527 tw528 rfl rfl cat_nil rfl (fun _ => rfl) dX6_clear_5 rfl (fun _ => ?_)
  refine sn_aload_n (v := (some this)) (pc' := 9) dX6_clear_8 rfl rfl rfl ?_
  refine sn_gR (k := 2) (pc' := 12) ci_7 rfl (Or.inl tw188) dX6_clear_9 rfl (fun v2 => ?_)
  refine sn_iconst (v := (0 : Int32)) (pc' := 13) dX6_clear_12 rfl (by decide) ?_
  refine sn_cS (st := []) (As := [va_rf v2, .int (0 : Int32)]) (st2 := (fun _ => [])) (pc' := 16) (c_J7_fill_031fb G v2 (0 : Int32)) cw_J7_fill_031fb rfl rfl tw530 tw531 rfl rfl cat_nil rfl (fun _ => rfl) dX6_clear_13 rfl (fun _ => ?_)
  refine sn_aload_n (v := (some this)) (pc' := 17) dX6_clear_16 rfl rfl rfl ?_
  refine sn_gR (k := 3) (pc' := 20) ci_7 rfl (Or.inl tw189) dX6_clear_17 rfl (fun v3 => ?_)
  refine sn_iconst (v := (0 : Int32)) (pc' := 21) dX6_clear_20 rfl (by decide) ?_
  refine sn_cS (st := []) (As := [va_rf v3, .int (0 : Int32)]) (st2 := (fun _ => [])) (pc' := 24) (c_J7_fill_031fb G v3 (0 : Int32)) cw_J7_fill_031fb rfl rfl tw530 tw531 rfl rfl cat_nil rfl (fun _ => rfl) dX6_clear_21 rfl (fun _ => ?_)
  refine sn_aload_n (v := (some this)) (pc' := 25) dX6_clear_24 rfl rfl rfl ?_
  refine sn_iconst (v := (0 : Int32)) (pc' := 26) dX6_clear_25 rfl (by decide) ?_
  refine sn_pI (k := 4) (pc' := 29) ci_7 rfl (Or.inl tw191) (Or.inl rfl) rfl dX6_clear_26 rfl (fun _ => ?_)
  refine sn_aload_n (v := (some this)) (pc' := 30) dX6_clear_29 rfl rfl rfl ?_
  refine sn_iconst (v := (-1 : Int32)) (pc' := 31) dX6_clear_30 rfl (by decide) ?_
  refine sn_pI (k := 5) (pc' := 34) ci_7 rfl (Or.inl tw194) (Or.inl rfl) rfl dX6_clear_31 rfl (fun _ => ?_)
  exact sn_vret dX6_clear_34 rfl
theorem c_X6_clear (G : GG) (this : Nat) : Cal G yX6_clear cX6_clear 1 none 1 23 (fun _ : Unit => none) (X6_clear this) [.ref this] :=
  Cal.of (by decide) (cat_t cat_nil) rfl (sn_weak (le_s le_e) (s_X6_clear G this))
theorem cw_X6_clear : CW yX6_clear cX6_clear 1 none 0 := ⟨tw526, tw8, by decide, by decide +kernel⟩
/-! X6_sizeOf -/
theorem dX6_sizeOf_0 : decode cX6_sizeOf 0 = .ok (.iload_n 1, 1) := by decide +kernel
theorem dX6_sizeOf_1 : decode cX6_sizeOf 1 = .ok (.ifCond .lt 12, 3) := by decide +kernel
theorem dX6_sizeOf_4 : decode cX6_sizeOf 4 = .ok (.iload_n 1, 1) := by decide +kernel
theorem dX6_sizeOf_5 : decode cX6_sizeOf 5 = .ok (.aload_n 0, 1) := by decide +kernel
theorem dX6_sizeOf_6 : decode cX6_sizeOf 6 = .ok (.getfield 15, 3) := by decide +kernel
theorem dX6_sizeOf_9 : decode cX6_sizeOf 9 = .ok (.arraylength, 1) := by decide +kernel
theorem dX6_sizeOf_10 : decode cX6_sizeOf 10 = .ok (.if_icmp .lt 7, 3) := by decide +kernel
theorem dX6_sizeOf_13 : decode cX6_sizeOf 13 = .ok (.iconst 0, 1) := by decide +kernel
theorem dX6_sizeOf_14 : decode cX6_sizeOf 14 = .ok (.goto 9, 3) := by decide +kernel
theorem dX6_sizeOf_17 : decode cX6_sizeOf 17 = .ok (.aload_n 0, 1) := by decide +kernel
theorem dX6_sizeOf_18 : decode cX6_sizeOf 18 = .ok (.getfield 15, 3) := by decide +kernel
theorem dX6_sizeOf_21 : decode cX6_sizeOf 21 = .ok (.iload_n 1, 1) := by decide +kernel
theorem dX6_sizeOf_22 : decode cX6_sizeOf 22 = .ok (.iaload, 1) := by decide +kernel
theorem dX6_sizeOf_23 : decode cX6_sizeOf 23 = .ok (.ireturn, 1) := by decide +kernel
def X6_sizeOf (this : Nat) (a1 : Int32) : MM Int32 :=
  if a1 < 0 then (mr (0 : Int32)) else (mb (gR 7 (some this) 1) fun v1 =>
  mb (aN v1) fun v2 =>
  if a1 < v2 then (mb (gR 7 (some this) 1) fun v3 =>
  mb (aI v3 a1) fun v4 =>
  mr v4) else (mr (0 : Int32)))
set_option maxRecDepth 100000 in
set_option maxHeartbeats 4000000 in
theorem s_X6_sizeOf (G : GG) (this : Nat) (a1 : Int32) : Sn G yX6_sizeOf cX6_sizeOf 2 (some FieldType.int) 0 0 (fun v : Int32 => some (.int v)) (X6_sizeOf this a1) 0 [some (va_rf (some this)), some (.int a1)] [] := by
  unfold X6_sizeOf
  refine sn_iload_n (v := a1) (pc' := 1) dX6_sizeOf_0 rfl rfl rfl ?_
  refine sn_if_lt (pt := 13) (pf := 4) dX6_sizeOf_1 rfl rfl ?_ ?_
  · refine sn_iconst (v := (0 : Int32)) (pc' := 14) dX6_sizeOf_13 rfl (by decide) ?_
    refine sn_goto (pc' := 23) dX6_sizeOf_14 rfl ?_
    exact sn_iret dX6_sizeOf_23 rfl rfl
  · refine sn_iload_n (v := a1) (pc' := 5) dX6_sizeOf_4 rfl rfl rfl ?_
    refine sn_aload_n (v := (some this)) (pc' := 6) dX6_sizeOf_5 rfl rfl rfl ?_
    refine sn_gR (k := 1) (pc' := 9) ci_7 rfl (Or.inl tw187) dX6_sizeOf_6 rfl (fun v1 => ?_)
    refine sn_aN (pc' := 10) dX6_sizeOf_9 rfl (fun v2 => ?_)
    refine sn_ic_lt (pt := 17) (pf := 13) dX6_sizeOf_10 rfl rfl ?_ ?_
    · refine sn_aload_n (v := (some this)) (pc' := 18) dX6_sizeOf_17 rfl rfl rfl ?_
      refine sn_gR (k := 1) (pc' := 21) ci_7 rfl (Or.inl tw187) dX6_sizeOf_18 rfl (fun v3 => ?_)
      refine sn_iload_n (v := a1) (pc' := 22) dX6_sizeOf_21 rfl rfl rfl ?_
      refine sn_aI (pc' := 23) dX6_sizeOf_22 rfl (fun v4 => ?_)
      exact sn_iret dX6_sizeOf_23 rfl rfl
    · refine sn_iconst (v := (0 : Int32)) (pc' := 14) dX6_sizeOf_13 rfl (by decide) ?_
      refine sn_goto (pc' := 23) dX6_sizeOf_14 rfl ?_
      exact sn_iret dX6_sizeOf_23 rfl rfl
theorem c_X6_sizeOf (G : GG) (this : Nat) (a1 : Int32) : Cal G yX6_sizeOf cX6_sizeOf 2 (some FieldType.int) 0 0 (fun v : Int32 => some (.int v)) (X6_sizeOf this a1) [.ref this, .int a1] :=
  Cal.of (by decide) (cat_t (cat_i cat_nil)) rfl (sn_weak (le_s (le_s le_e)) (s_X6_sizeOf G this a1))
theorem cw_X6_sizeOf : CW yX6_sizeOf cX6_sizeOf 2 (some FieldType.int) 1 := ⟨tw540, tw8, by decide, by decide +kernel⟩
/-! X3_isSize -/
theorem dX3_isSize_0 : decode cX3_isSize 0 = .ok (.iload_n 0, 1) := by decide +kernel
theorem dX3_isSize_1 : decode cX3_isSize 1 = .ok (.iconst 1, 1) := by decide +kernel
theorem dX3_isSize_2 : decode cX3_isSize 2 = .ok (.if_icmp .eq 20, 3) := by decide +kernel
theorem dX3_isSize_5 : decode cX3_isSize 5 = .ok (.iload_n 0, 1) := by decide +kernel
theorem dX3_isSize_6 : decode cX3_isSize 6 = .ok (.iconst 2, 1) := by decide +kernel
theorem dX3_isSize_7 : decode cX3_isSize 7 = .ok (.if_icmp .lt 19, 3) := by decide +kernel
theorem dX3_isSize_10 : decode cX3_isSize 10 = .ok (.iload_n 0, 1) := by decide +kernel
theorem dX3_isSize_11 : decode cX3_isSize 11 = .ok (.bipush 12, 2) := by decide +kernel
theorem dX3_isSize_13 : decode cX3_isSize 13 = .ok (.if_icmp .gt 13, 3) := by decide +kernel
theorem dX3_isSize_16 : decode cX3_isSize 16 = .ok (.iload_n 0, 1) := by decide +kernel
theorem dX3_isSize_17 : decode cX3_isSize 17 = .ok (.iconst 2, 1) := by decide +kernel
theorem dX3_isSize_18 : decode cX3_isSize 18 = .ok (.irem, 1) := by decide +kernel
theorem dX3_isSize_19 : decode cX3_isSize 19 = .ok (.ifCond .ne 7, 3) := by decide +kernel
theorem dX3_isSize_22 : decode cX3_isSize 22 = .ok (.iconst 1, 1) := by decide +kernel
theorem dX3_isSize_23 : decode cX3_isSize 23 = .ok (.goto 4, 3) := by decide +kernel
theorem dX3_isSize_26 : decode cX3_isSize 26 = .ok (.iconst 0, 1) := by decide +kernel
theorem dX3_isSize_27 : decode cX3_isSize 27 = .ok (.ireturn, 1) := by decide +kernel
def X3_isSize (a0 : Int32) : MM Int32 :=
  if a0 = (1 : Int32) then (mr (1 : Int32)) else (if a0 < (2 : Int32) then (mr (0 : Int32)) else (if (12 : Int32) < a0 then (mr (0 : Int32)) else (mb (rI a0 (2 : Int32)) fun v1 =>
  if v1 = 0 then (mr (1 : Int32)) else (mr (0 : Int32)))))
set_option maxRecDepth 100000 in
set_option maxHeartbeats 4000000 in
theorem s_X3_isSize (G : GG) (a0 : Int32) : Sn G yX3_isSize cX3_isSize 1 (some FieldType.boolean) 0 0 (fun v : Int32 => some (.int v)) (X3_isSize a0) 0 [some (.int a0)] [] := by
  unfold X3_isSize
  refine sn_iload_n (v := a0) (pc' := 1) dX3_isSize_0 rfl rfl rfl ?_
  refine sn_iconst (v := (1 : Int32)) (pc' := 2) dX3_isSize_1 rfl (by decide) ?_
  refine sn_ic_eq (pt := 22) (pf := 5) dX3_isSize_2 rfl rfl ?_ ?_
  · refine sn_iconst (v := (1 : Int32)) (pc' := 23) dX3_isSize_22 rfl (by decide) ?_
    refine sn_goto (pc' := 27) dX3_isSize_23 rfl ?_
    exact sn_iret dX3_isSize_27 rfl (by decide)
  · refine sn_iload_n (v := a0) (pc' := 6) dX3_isSize_5 rfl rfl rfl ?_
    refine sn_iconst (v := (2 : Int32)) (pc' := 7) dX3_isSize_6 rfl (by decide) ?_
    refine sn_ic_lt (pt := 26) (pf := 10) dX3_isSize_7 rfl rfl ?_ ?_
    · refine sn_iconst (v := (0 : Int32)) (pc' := 27) dX3_isSize_26 rfl (by decide) ?_
      exact sn_iret dX3_isSize_27 rfl (by decide)
    · refine sn_iload_n (v := a0) (pc' := 11) dX3_isSize_10 rfl rfl rfl ?_
      refine sn_bipush (v := (12 : Int32)) (pc' := 13) dX3_isSize_11 rfl (by decide) ?_
      refine sn_ic_gt (pt := 26) (pf := 16) dX3_isSize_13 rfl rfl ?_ ?_
      · refine sn_iconst (v := (0 : Int32)) (pc' := 27) dX3_isSize_26 rfl (by decide) ?_
        exact sn_iret dX3_isSize_27 rfl (by decide)
      · refine sn_iload_n (v := a0) (pc' := 17) dX3_isSize_16 rfl rfl rfl ?_
        refine sn_iconst (v := (2 : Int32)) (pc' := 18) dX3_isSize_17 rfl (by decide) ?_
        refine sn_rI (pc' := 19) dX3_isSize_18 rfl (fun v1 => ?_)
        refine sn_if_ne (pt := 26) (pf := 22) dX3_isSize_19 rfl rfl ?_ ?_
        · refine sn_iconst (v := (1 : Int32)) (pc' := 23) dX3_isSize_22 rfl (by decide) ?_
          refine sn_goto (pc' := 27) dX3_isSize_23 rfl ?_
          exact sn_iret dX3_isSize_27 rfl (by decide)
        · refine sn_iconst (v := (0 : Int32)) (pc' := 27) dX3_isSize_26 rfl (by decide) ?_
          exact sn_iret dX3_isSize_27 rfl (by decide)
theorem c_X3_isSize (G : GG) (a0 : Int32) : Cal G yX3_isSize cX3_isSize 1 (some FieldType.boolean) 0 0 (fun v : Int32 => some (.int v)) (X3_isSize a0) [.int a0] :=
  Cal.of (by decide) (cat_i cat_nil) rfl (sn_weak (le_s le_e) (s_X3_isSize G a0))
theorem cw_X3_isSize : CW yX3_isSize cX3_isSize 1 (some FieldType.boolean) 1 := ⟨tw543, tw19, by decide, by decide +kernel⟩
/-! X6_addGathering -/
theorem dX6_addGathering_0 : decode cX6_addGathering 0 = .ok (.aload_n 0, 1) := by decide +kernel
theorem dX6_addGathering_1 : decode cX6_addGathering 1 = .ok (.getfield 38, 3) := by decide +kernel
theorem dX6_addGathering_4 : decode cX6_addGathering 4 = .ok (.aload_n 0, 1) := by decide +kernel
theorem dX6_addGathering_5 : decode cX6_addGathering 5 = .ok (.getfield 9, 3) := by decide +kernel
theorem dX6_addGathering_8 : decode cX6_addGathering 8 = .ok (.arraylength, 1) := by decide +kernel
theorem dX6_addGathering_9 : decode cX6_addGathering 9 = .ok (.if_icmp .ge 16, 3) := by decide +kernel
theorem dX6_addGathering_12 : decode cX6_addGathering 12 = .ok (.iload_n 1, 1) := by decide +kernel
theorem dX6_addGathering_13 : decode cX6_addGathering 13 = .ok (.ifCond .lt 12, 3) := by decide +kernel
theorem dX6_addGathering_16 : decode cX6_addGathering 16 = .ok (.iload_n 1, 1) := by decide +kernel
theorem dX6_addGathering_17 : decode cX6_addGathering 17 = .ok (.aload_n 0, 1) := by decide +kernel
theorem dX6_addGathering_18 : decode cX6_addGathering 18 = .ok (.getfield 15, 3) := by decide +kernel
theorem dX6_addGathering_21 : decode cX6_addGathering 21 = .ok (.arraylength, 1) := by decide +kernel
theorem dX6_addGathering_22 : decode cX6_addGathering 22 = .ok (.if_icmp .lt 4, 3) := by decide +kernel
theorem dX6_addGathering_25 : decode cX6_addGathering 25 = .ok (.return_, 1) := by decide +kernel
theorem dX6_addGathering_26 : decode cX6_addGathering 26 = .ok (.aload_n 0, 1) := by decide +kernel
theorem dX6_addGathering_27 : decode cX6_addGathering 27 = .ok (.getfield 9, 3) := by decide +kernel
theorem dX6_addGathering_30 : decode cX6_addGathering 30 = .ok (.aload_n 0, 1) := by decide +kernel
theorem dX6_addGathering_31 : decode cX6_addGathering 31 = .ok (.dup, 1) := by decide +kernel
theorem dX6_addGathering_32 : decode cX6_addGathering 32 = .ok (.getfield 38, 3) := by decide +kernel
theorem dX6_addGathering_35 : decode cX6_addGathering 35 = .ok (.dup_x1, 1) := by decide +kernel
theorem dX6_addGathering_36 : decode cX6_addGathering 36 = .ok (.iconst 1, 1) := by decide +kernel
theorem dX6_addGathering_37 : decode cX6_addGathering 37 = .ok (.iadd, 1) := by decide +kernel
theorem dX6_addGathering_38 : decode cX6_addGathering 38 = .ok (.putfield 38, 3) := by decide +kernel
theorem dX6_addGathering_41 : decode cX6_addGathering 41 = .ok (.iload_n 1, 1) := by decide +kernel
theorem dX6_addGathering_42 : decode cX6_addGathering 42 = .ok (.iastore, 1) := by decide +kernel
theorem dX6_addGathering_43 : decode cX6_addGathering 43 = .ok (.aload_n 0, 1) := by decide +kernel
theorem dX6_addGathering_44 : decode cX6_addGathering 44 = .ok (.getfield 15, 3) := by decide +kernel
theorem dX6_addGathering_47 : decode cX6_addGathering 47 = .ok (.iload_n 1, 1) := by decide +kernel
theorem dX6_addGathering_48 : decode cX6_addGathering 48 = .ok (.iload_n 2, 1) := by decide +kernel
theorem dX6_addGathering_49 : decode cX6_addGathering 49 = .ok (.iastore, 1) := by decide +kernel
theorem dX6_addGathering_50 : decode cX6_addGathering 50 = .ok (.iload_n 1, 1) := by decide +kernel
theorem dX6_addGathering_51 : decode cX6_addGathering 51 = .ok (.bipush 70, 2) := by decide +kernel
theorem dX6_addGathering_53 : decode cX6_addGathering 53 = .ok (.if_icmp .eq 8, 3) := by decide +kernel
theorem dX6_addGathering_56 : decode cX6_addGathering 56 = .ok (.aload_n 0, 1) := by decide +kernel
theorem dX6_addGathering_57 : decode cX6_addGathering 57 = .ok (.iload_n 1, 1) := by decide +kernel
theorem dX6_addGathering_58 : decode cX6_addGathering 58 = .ok (.putfield 25, 3) := by decide +kernel
theorem dX6_addGathering_61 : decode cX6_addGathering 61 = .ok (.return_, 1) := by decide +kernel
def X6_addGathering (this : Nat) (a1 : Int32) (a2 : Int32) : MM Unit :=
  mb (gI 7 (some this) 4) fun v1 =>
  mb (gR 7 (some this) 0) fun v2 =>
  mb (aN v2) fun v3 =>
  if v3 ≤ v1 then (mr ()) else (if a1 < 0 then (mr ()) else (mb (gR 7 (some this) 1) fun v4 =>
  mb (aN v4) fun v5 =>
  if a1 < v5 then (mb (gR 7 (some this) 0) fun v6 =>
  mb (gI 7 (some this) 4) fun v7 =>
  mb (pI 7 (some this) 4 (v7 + (1 : Int32))) fun _ =>
  mb (sI v6 v7 a1) fun _ =>
  mb (gR 7 (some this) 1) fun v8 =>
  mb (sI v8 a1 a2) fun _ =>
  if a1 = (70 : Int32) then (mr ()) else (mb (pI 7 (some this) 5 a1) fun _ =>
  mr ())) else (mr ())))
set_option maxRecDepth 100000 in
set_option maxHeartbeats 4000000 in
theorem s_X6_addGathering (G : GG) (this : Nat) (a1 : Int32) (a2 : Int32) : Sn G yX6_addGathering cX6_addGathering 3 none 0 0 (fun _ : Unit => none) (X6_addGathering this a1 a2) 0 [some (va_rf (some this)), some (.int a1), some (.int a2)] [] := by
  unfold X6_addGathering
  refine sn_aload_n (v := (some this)) (pc' := 1) dX6_addGathering_0 rfl rfl rfl ?_
  refine sn_gI (k := 4) (pc' := 4) ci_7 rfl (Or.inl tw191) dX6_addGathering_1 rfl (fun v1 => ?_)
  refine sn_aload_n (v := (some this)) (pc' := 5) dX6_addGathering_4 rfl rfl rfl ?_
  refine sn_gR (k := 0) (pc' := 8) ci_7 rfl (Or.inl tw186) dX6_addGathering_5 rfl (fun v2 => ?_)
  refine sn_aN (pc' := 9) dX6_addGathering_8 rfl (fun v3 => ?_)
  refine sn_ic_ge (pt := 25) (pf := 12) dX6_addGathering_9 rfl rfl ?_ ?_
  · exact sn_vret dX6_addGathering_25 rfl
  · refine sn_iload_n (v := a1) (pc' := 13) dX6_addGathering_12 rfl rfl rfl ?_
    refine sn_if_lt (pt := 25) (pf := 16) dX6_addGathering_13 rfl rfl ?_ ?_
    · exact sn_vret dX6_addGathering_25 rfl
    · refine sn_iload_n (v := a1) (pc' := 17) dX6_addGathering_16 rfl rfl rfl ?_
      refine sn_aload_n (v := (some this)) (pc' := 18) dX6_addGathering_17 rfl rfl rfl ?_
      refine sn_gR (k := 1) (pc' := 21) ci_7 rfl (Or.inl tw187) dX6_addGathering_18 rfl (fun v4 => ?_)
      refine sn_aN (pc' := 22) dX6_addGathering_21 rfl (fun v5 => ?_)
      refine sn_ic_lt (pt := 26) (pf := 25) dX6_addGathering_22 rfl rfl ?_ ?_
      · refine sn_aload_n (v := (some this)) (pc' := 27) dX6_addGathering_26 rfl rfl rfl ?_
        refine sn_gR (k := 0) (pc' := 30) ci_7 rfl (Or.inl tw186) dX6_addGathering_27 rfl (fun v6 => ?_)
        refine sn_aload_n (v := (some this)) (pc' := 31) dX6_addGathering_30 rfl rfl rfl ?_
        refine sn_dup (pc' := 32) dX6_addGathering_31 rfl (cat_rf _) ?_
        refine sn_gI (k := 4) (pc' := 35) ci_7 rfl (Or.inl tw191) dX6_addGathering_32 rfl (fun v7 => ?_)
        refine sn_dup_x1 (pc' := 36) dX6_addGathering_35 rfl rfl (cat_rf _) ?_
        refine sn_iconst (v := (1 : Int32)) (pc' := 37) dX6_addGathering_36 rfl (by decide) ?_
        refine sn_iadd (pc' := 38) dX6_addGathering_37 rfl ?_
        refine sn_pI (k := 4) (pc' := 41) ci_7 rfl (Or.inl tw191) (Or.inl rfl) rfl dX6_addGathering_38 rfl (fun _ => ?_)
        refine sn_iload_n (v := a1) (pc' := 42) dX6_addGathering_41 rfl rfl rfl ?_
        refine sn_sI (pc' := 43) dX6_addGathering_42 rfl (fun _ => ?_)
        refine sn_aload_n (v := (some this)) (pc' := 44) dX6_addGathering_43 rfl rfl rfl ?_
        refine sn_gR (k := 1) (pc' := 47) ci_7 rfl (Or.inl tw187) dX6_addGathering_44 rfl (fun v8 => ?_)
        refine sn_iload_n (v := a1) (pc' := 48) dX6_addGathering_47 rfl rfl rfl ?_
        refine sn_iload_n (v := a2) (pc' := 49) dX6_addGathering_48 rfl rfl rfl ?_
        refine sn_sI (pc' := 50) dX6_addGathering_49 rfl (fun _ => ?_)
        refine sn_iload_n (v := a1) (pc' := 51) dX6_addGathering_50 rfl rfl rfl ?_
        refine sn_bipush (v := (70 : Int32)) (pc' := 53) dX6_addGathering_51 rfl (by decide) ?_
        refine sn_ic_eq (pt := 61) (pf := 56) dX6_addGathering_53 rfl rfl ?_ ?_
        · exact sn_vret dX6_addGathering_61 rfl
        · refine sn_aload_n (v := (some this)) (pc' := 57) dX6_addGathering_56 rfl rfl rfl ?_
          refine sn_iload_n (v := a1) (pc' := 58) dX6_addGathering_57 rfl rfl rfl ?_
          refine sn_pI (k := 5) (pc' := 61) ci_7 rfl (Or.inl tw194) (Or.inl rfl) rfl dX6_addGathering_58 rfl (fun _ => ?_)
          exact sn_vret dX6_addGathering_61 rfl
      · exact sn_vret dX6_addGathering_25 rfl
theorem c_X6_addGathering (G : GG) (this : Nat) (a1 : Int32) (a2 : Int32) : Cal G yX6_addGathering cX6_addGathering 3 none 0 0 (fun _ : Unit => none) (X6_addGathering this a1 a2) [.ref this, .int a1, .int a2] :=
  Cal.of (by decide) (cat_t (cat_i (cat_i cat_nil))) rfl (sn_weak (le_s (le_s (le_s le_e))) (s_X6_addGathering G this a1 a2))
theorem cw_X6_addGathering : CW yX6_addGathering cX6_addGathering 3 none 2 := ⟨tw551, tw8, by decide, by decide +kernel⟩
/-! X6_addGroup -/
theorem dX6_addGroup_0 : decode cX6_addGroup 0 = .ok (.iload_n 1, 1) := by decide +kernel
theorem dX6_addGroup_1 : decode cX6_addGroup 1 = .ok (.istore 5, 2) := by decide +kernel
theorem dX6_addGroup_3 : decode cX6_addGroup 3 = .ok (.iload 5, 2) := by decide +kernel
theorem dX6_addGroup_5 : decode cX6_addGroup 5 = .ok (.iload_n 2, 1) := by decide +kernel
theorem dX6_addGroup_6 : decode cX6_addGroup 6 = .ok (.if_icmp .gt 30, 3) := by decide +kernel
theorem dX6_addGroup_9 : decode cX6_addGroup 9 = .ok (.aload_n 0, 1) := by decide +kernel
theorem dX6_addGroup_10 : decode cX6_addGroup 10 = .ok (.iload 5, 2) := by decide +kernel
theorem dX6_addGroup_12 : decode cX6_addGroup 12 = .ok (.iload 5, 2) := by decide +kernel
theorem dX6_addGroup_14 : decode cX6_addGroup 14 = .ok (.iload_n 1, 1) := by decide +kernel
theorem dX6_addGroup_15 : decode cX6_addGroup 15 = .ok (.isub, 1) := by decide +kernel
theorem dX6_addGroup_16 : decode cX6_addGroup 16 = .ok (.iconst 2, 1) := by decide +kernel
theorem dX6_addGroup_17 : decode cX6_addGroup 17 = .ok (.irem, 1) := by decide +kernel
theorem dX6_addGroup_18 : decode cX6_addGroup 18 = .ok (.ifCond .ne 7, 3) := by decide +kernel
theorem dX6_addGroup_21 : decode cX6_addGroup 21 = .ok (.iload_n 3, 1) := by decide +kernel
theorem dX6_addGroup_22 : decode cX6_addGroup 22 = .ok (.goto 5, 3) := by decide +kernel
theorem dX6_addGroup_25 : decode cX6_addGroup 25 = .ok (.iload 4, 2) := by decide +kernel
theorem dX6_addGroup_27 : decode cX6_addGroup 27 = .ok (.invokevirtual 47, 3) := by decide +kernel
theorem dX6_addGroup_30 : decode cX6_addGroup 30 = .ok (.iinc 5 1, 3) := by decide +kernel
theorem dX6_addGroup_33 : decode cX6_addGroup 33 = .ok (.goto (-30), 3) := by decide +kernel
theorem dX6_addGroup_36 : decode cX6_addGroup 36 = .ok (.return_, 1) := by decide +kernel
def X6_addGroup_27 (k3 : Nat → Int32 → Int32 → Int32 → Int32 → Int32 → MM Unit) (this : Nat) (x1 : Int32) (x2 : Int32) (x3 : Int32) (x4 : Int32) (x5 : Int32) (y0 : Int32) (y1 : Int32) : MM Unit :=
  mb (wc 7 (some this) fun t => X6_addGathering t y1 y0) fun _ =>
  (k3 this x1 x2 x3 x4 (x5 + (1 : Int32)))
def X6_addGroup_3_st  (k3 : Nat → Int32 → Int32 → Int32 → Int32 → Int32 → MM Unit) (this : Nat) (x1 : Int32) (x2 : Int32) (x3 : Int32) (x4 : Int32) (x5 : Int32) : MM Unit :=
  if x2 < x5 then (mr ()) else (mb (rI (x5 - x1) (2 : Int32)) fun v1 =>
  if v1 = 0 then ((X6_addGroup_27 k3 this x1 x2 x3 x4 x5 x3 x5)) else ((X6_addGroup_27 k3 this x1 x2 x3 x4 x5 x4 x5)))
def X6_addGroup_3  : Nat → Nat → Int32 → Int32 → Int32 → Int32 → Int32 → MM Unit
  | 0 => fun _ _ _ _ _ _ => mf
  | n + 1 => fun this x1 x2 x3 x4 x5 => X6_addGroup_3_st  (X6_addGroup_3  n) this x1 x2 x3 x4 x5
def X6_addGroup (this : Nat) (a1 : Int32) (a2 : Int32) (a3 : Int32) (a4 : Int32) : MM Unit :=
  (X6_addGroup_3 LFU this a1 a2 a3 a4 a1)
set_option maxRecDepth 100000 in
set_option maxHeartbeats 4000000 in
theorem s_X6_addGroup_27 (G : GG) (k3 : Nat → Int32 → Int32 → Int32 → Int32 → Int32 → MM Unit) (hk3 : ∀ (this : Nat) (x1 : Int32) (x2 : Int32) (x3 : Int32) (x4 : Int32) (x5 : Int32), Sn G yX6_addGroup cX6_addGroup 6 none 1 22 (fun _ : Unit => none) (k3 this x1 x2 x3 x4 x5) 3 [some (va_rf (some this)), some (.int x1), some (.int x2), some (.int x3), some (.int x4), some (.int x5)] []) (this : Nat) (x1 : Int32) (x2 : Int32) (x3 : Int32) (x4 : Int32) (x5 : Int32) (y0 : Int32) (y1 : Int32) : Sn G yX6_addGroup cX6_addGroup 6 none 1 22 (fun _ : Unit => none) (X6_addGroup_27 k3 this x1 x2 x3 x4 x5 y0 y1) 27 [some (va_rf (some this)), some (.int x1), some (.int x2), some (.int x3), some (.int x4), some (.int x5)] [.int y0, .int y1, va_rf (some this)] := by
  unfold X6_addGroup_27
  refine sn_cV (r := (some this)) (st := []) (As := [.int y1, .int y0]) (st2 := (fun _ => [])) (pc' := 30) ci_7 (fun t => c_X6_addGathering G t y1 y0) cw_X6_addGathering rfl rfl tw548 pw14 tw550 rfl rfl cat_nil rfl (fun _ => rfl) dX6_addGroup_27 rfl (fun _ => ?_)
  refine sn_iinc (v := x5) (w := 1) (L' := [some (va_rf (some this)), some (.int x1), some (.int x2), some (.int x3), some (.int x4), some (.int (x5 + (1 : Int32)))]) (pc' := 33) dX6_addGroup_30 rfl rfl rfl (by decide) rfl ?_
  refine sn_goto (pc' := 3) dX6_addGroup_33 rfl ?_
  exact sn_weak (le_s (le_s (le_s (le_s (le_s (le_s le_e)))))) (hk3 this x1 x2 x3 x4 (x5 + (1 : Int32)))
set_option maxRecDepth 100000 in
set_option maxHeartbeats 4000000 in
theorem s_X6_addGroup_3_st (G : GG)   (k3 : Nat → Int32 → Int32 → Int32 → Int32 → Int32 → MM Unit) (hk3 : ∀ (this : Nat) (x1 : Int32) (x2 : Int32) (x3 : Int32) (x4 : Int32) (x5 : Int32), Sn G yX6_addGroup cX6_addGroup 6 none 1 22 (fun _ : Unit => none) (k3 this x1 x2 x3 x4 x5) 3 [some (va_rf (some this)), some (.int x1), some (.int x2), some (.int x3), some (.int x4), some (.int x5)] []) (this : Nat) (x1 : Int32) (x2 : Int32) (x3 : Int32) (x4 : Int32) (x5 : Int32) : Sn G yX6_addGroup cX6_addGroup 6 none 1 22 (fun _ : Unit => none) (X6_addGroup_3_st  k3 this x1 x2 x3 x4 x5) 3 [some (va_rf (some this)), some (.int x1), some (.int x2), some (.int x3), some (.int x4), some (.int x5)] [] := by
  unfold X6_addGroup_3_st
  refine sn_iload (v := x5) (pc' := 5) dX6_addGroup_3 rfl rfl ?_
  refine sn_iload_n (v := x2) (pc' := 6) dX6_addGroup_5 rfl rfl rfl ?_
  refine sn_ic_gt (pt := 36) (pf := 9) dX6_addGroup_6 rfl rfl ?_ ?_
  · exact sn_vret dX6_addGroup_36 rfl
  · refine sn_aload_n (v := (some this)) (pc' := 10) dX6_addGroup_9 rfl rfl rfl ?_
    refine sn_iload (v := x5) (pc' := 12) dX6_addGroup_10 rfl rfl ?_
    refine sn_iload (v := x5) (pc' := 14) dX6_addGroup_12 rfl rfl ?_
    refine sn_iload_n (v := x1) (pc' := 15) dX6_addGroup_14 rfl rfl rfl ?_
    refine sn_isub (pc' := 16) dX6_addGroup_15 rfl ?_
    refine sn_iconst (v := (2 : Int32)) (pc' := 17) dX6_addGroup_16 rfl (by decide) ?_
    refine sn_rI (pc' := 18) dX6_addGroup_17 rfl (fun v1 => ?_)
    refine sn_if_ne (pt := 25) (pf := 21) dX6_addGroup_18 rfl rfl ?_ ?_
    · refine sn_iload_n (v := x3) (pc' := 22) dX6_addGroup_21 rfl rfl rfl ?_
      refine sn_goto (pc' := 27) dX6_addGroup_22 rfl ?_
      exact sn_weak (le_s (le_s (le_s (le_s (le_s (le_s le_e)))))) (s_X6_addGroup_27 G k3 hk3 this x1 x2 x3 x4 x5 x3 x5)
    · refine sn_iload (v := x4) (pc' := 27) dX6_addGroup_25 rfl rfl ?_
      exact sn_weak (le_s (le_s (le_s (le_s (le_s (le_s le_e)))))) (s_X6_addGroup_27 G k3 hk3 this x1 x2 x3 x4 x5 x4 x5)
set_option maxRecDepth 100000 in
set_option maxHeartbeats 4000000 in
theorem s_X6_addGroup_3 (G : GG)   : ∀ (n : Nat) (this : Nat) (x1 : Int32) (x2 : Int32) (x3 : Int32) (x4 : Int32) (x5 : Int32), Sn G yX6_addGroup cX6_addGroup 6 none 1 22 (fun _ : Unit => none) (X6_addGroup_3  n this x1 x2 x3 x4 x5) 3 [some (va_rf (some this)), some (.int x1), some (.int x2), some (.int x3), some (.int x4), some (.int x5)] [] := by
  intro n
  induction n with
  | zero => intro this x1 x2 x3 x4 x5; exact sn_mf
  | succ n ih => intro this x1 x2 x3 x4 x5; exact s_X6_addGroup_3_st G   (X6_addGroup_3  n) ih this x1 x2 x3 x4 x5
set_option maxRecDepth 100000 in
set_option maxHeartbeats 4000000 in
theorem s_X6_addGroup (G : GG) (this : Nat) (a1 : Int32) (a2 : Int32) (a3 : Int32) (a4 : Int32) : Sn G yX6_addGroup cX6_addGroup 6 none 1 22 (fun _ : Unit => none) (X6_addGroup this a1 a2 a3 a4) 0 [some (va_rf (some this)), some (.int a1), some (.int a2), some (.int a3), some (.int a4), none] [] := by
  unfold X6_addGroup
  refine sn_iload_n (v := a1) (pc' := 1) dX6_addGroup_0 rfl rfl rfl ?_
  refine sn_istore (v := a1) (L' := [some (va_rf (some this)), some (.int a1), some (.int a2), some (.int a3), some (.int a4), some (.int a1)]) (pc' := 3) dX6_addGroup_1 rfl rfl rfl ?_
  exact sn_weak (le_s (le_s (le_s (le_s (le_s (le_s le_e)))))) (s_X6_addGroup_3 G LFU this a1 a2 a3 a4 a1)
theorem c_X6_addGroup (G : GG) (this : Nat) (a1 : Int32) (a2 : Int32) (a3 : Int32) (a4 : Int32) : Cal G yX6_addGroup cX6_addGroup 6 none 1 22 (fun _ : Unit => none) (X6_addGroup this a1 a2 a3 a4) [.ref this, .int a1, .int a2, .int a3, .int a4] :=
  Cal.of (by decide) (cat_t (cat_i (cat_i (cat_i (cat_i cat_nil))))) rfl (sn_weak (le_s (le_s (le_s (le_s (le_s (le_z le_e)))))) (s_X6_addGroup G this a1 a2 a3 a4))
theorem cw_X6_addGroup : CW yX6_addGroup cX6_addGroup 6 none 4 := ⟨tw547, tw8, by decide, by decide +kernel⟩
/-! X3_ofSigns -/
theorem dX3_ofSigns_0 : decode cX3_ofSigns 0 = .ok (.iload_n 1, 1) := by decide +kernel
theorem dX3_ofSigns_1 : decode cX3_ofSigns 1 = .ok (.istore 5, 2) := by decide +kernel
theorem dX3_ofSigns_3 : decode cX3_ofSigns 3 = .ok (.iload 5, 2) := by decide +kernel
theorem dX3_ofSigns_5 : decode cX3_ofSigns 5 = .ok (.iload_n 2, 1) := by decide +kernel
theorem dX3_ofSigns_6 : decode cX3_ofSigns 6 = .ok (.if_icmp .ge 38, 3) := by decide +kernel
theorem dX3_ofSigns_9 : decode cX3_ofSigns 9 = .ok (.aload_n 0, 1) := by decide +kernel
theorem dX3_ofSigns_10 : decode cX3_ofSigns 10 = .ok (.getfield 80, 3) := by decide +kernel
theorem dX3_ofSigns_13 : decode cX3_ofSigns 13 = .ok (.iload 5, 2) := by decide +kernel
theorem dX3_ofSigns_15 : decode cX3_ofSigns 15 = .ok (.invokevirtual 41, 3) := by decide +kernel
theorem dX3_ofSigns_18 : decode cX3_ofSigns 18 = .ok (.iload_n 3, 1) := by decide +kernel
theorem dX3_ofSigns_19 : decode cX3_ofSigns 19 = .ok (.if_icmp .lt 17, 3) := by decide +kernel
theorem dX3_ofSigns_22 : decode cX3_ofSigns 22 = .ok (.aload_n 0, 1) := by decide +kernel
theorem dX3_ofSigns_23 : decode cX3_ofSigns 23 = .ok (.getfield 80, 3) := by decide +kernel
theorem dX3_ofSigns_26 : decode cX3_ofSigns 26 = .ok (.iload 5, 2) := by decide +kernel
theorem dX3_ofSigns_28 : decode cX3_ofSigns 28 = .ok (.invokevirtual 41, 3) := by decide +kernel
theorem dX3_ofSigns_31 : decode cX3_ofSigns 31 = .ok (.iload 4, 2) := by decide +kernel
theorem dX3_ofSigns_33 : decode cX3_ofSigns 33 = .ok (.if_icmp .le 5, 3) := by decide +kernel
theorem dX3_ofSigns_36 : decode cX3_ofSigns 36 = .ok (.iconst 0, 1) := by decide +kernel
theorem dX3_ofSigns_37 : decode cX3_ofSigns 37 = .ok (.ireturn, 1) := by decide +kernel
theorem dX3_ofSigns_38 : decode cX3_ofSigns 38 = .ok (.iinc 5 1, 3) := by decide +kernel
theorem dX3_ofSigns_41 : decode cX3_ofSigns 41 = .ok (.goto (-38), 3) := by decide +kernel
theorem dX3_ofSigns_44 : decode cX3_ofSigns 44 = .ok (.iconst 1, 1) := by decide +kernel
theorem dX3_ofSigns_45 : decode cX3_ofSigns 45 = .ok (.ireturn, 1) := by decide +kernel
def X3_ofSigns_3_st  (k3 : Option Nat → Int32 → Int32 → Int32 → Int32 → MM Int32) (x0 : Option Nat) (x2 : Int32) (x3 : Int32) (x4 : Int32) (x5 : Int32) : MM Int32 :=
  if x2 ≤ x5 then (mr (1 : Int32)) else (mb (gR 6 x0 1) fun v1 =>
  mb (wc 9 v1 fun t => X8_get t x5) fun v2 =>
  if v2 < x3 then (mr (0 : Int32)) else (mb (gR 6 x0 1) fun v3 =>
  mb (wc 9 v3 fun t => X8_get t x5) fun v4 =>
  if v4 ≤ x4 then ((k3 x0 x2 x3 x4 (x5 + (1 : Int32)))) else (mr (0 : Int32))))
def X3_ofSigns_3  : Nat → Option Nat → Int32 → Int32 → Int32 → Int32 → MM Int32
  | 0 => fun _ _ _ _ _ => mf
  | n + 1 => fun x0 x2 x3 x4 x5 => X3_ofSigns_3_st  (X3_ofSigns_3  n) x0 x2 x3 x4 x5
def X3_ofSigns (a0 : Option Nat) (a1 : Int32) (a2 : Int32) (a3 : Int32) (a4 : Int32) : MM Int32 :=
  (X3_ofSigns_3 LFU a0 a2 a3 a4 a1)
set_option maxRecDepth 100000 in
set_option maxHeartbeats 4000000 in
theorem s_X3_ofSigns_3_st (G : GG)   (k3 : Option Nat → Int32 → Int32 → Int32 → Int32 → MM Int32) (hk3 : ∀ (x0 : Option Nat) (x2 : Int32) (x3 : Int32) (x4 : Int32) (x5 : Int32), Sn G yX3_ofSigns cX3_ofSigns 6 (some FieldType.boolean) 1 21 (fun v : Int32 => some (.int v)) (k3 x0 x2 x3 x4 x5) 3 [some (va_rf x0), none, some (.int x2), some (.int x3), some (.int x4), some (.int x5)] []) (x0 : Option Nat) (x2 : Int32) (x3 : Int32) (x4 : Int32) (x5 : Int32) : Sn G yX3_ofSigns cX3_ofSigns 6 (some FieldType.boolean) 1 21 (fun v : Int32 => some (.int v)) (X3_ofSigns_3_st  k3 x0 x2 x3 x4 x5) 3 [some (va_rf x0), none, some (.int x2), some (.int x3), some (.int x4), some (.int x5)] [] := by
  unfold X3_ofSigns_3_st
  refine sn_iload (v := x5) (pc' := 5) dX3_ofSigns_3 rfl rfl ?_
  refine sn_iload_n (v := x2) (pc' := 6) dX3_ofSigns_5 rfl rfl rfl ?_
  refine sn_ic_ge (pt := 44) (pf := 9) dX3_ofSigns_6 rfl rfl ?_ ?_
  · refine sn_iconst (v := (1 : Int32)) (pc' := 45) dX3_ofSigns_44 rfl (by decide) ?_
    exact sn_iret dX3_ofSigns_45 rfl (by decide)
  · refine sn_aload_n (v := x0) (pc' := 10) dX3_ofSigns_9 rfl rfl rfl ?_
    refine sn_gR (k := 1) (pc' := 13) ci_6 rfl (Or.inr ⟨_, nw137⟩) dX3_ofSigns_10 rfl (fun v1 => ?_)
    refine sn_iload (v := x5) (pc' := 15) dX3_ofSigns_13 rfl rfl ?_
    refine sn_cV (r := v1) (st := []) (As := [.int x5]) (st2 := (fun v => .int v :: [])) (pc' := 18) ci_9 (fun t => c_X8_get G t x5) cw_X8_get rfl rfl tw536 tw497 tw496 rfl rfl cat_nil rfl (fun _ => rfl) dX3_ofSigns_15 rfl (fun v2 => ?_)
    refine sn_iload_n (v := x3) (pc' := 19) dX3_ofSigns_18 rfl rfl rfl ?_
    refine sn_ic_lt (pt := 36) (pf := 22) dX3_ofSigns_19 rfl rfl ?_ ?_
    · refine sn_iconst (v := (0 : Int32)) (pc' := 37) dX3_ofSigns_36 rfl (by decide) ?_
      exact sn_iret dX3_ofSigns_37 rfl (by decide)
    · refine sn_aload_n (v := x0) (pc' := 23) dX3_ofSigns_22 rfl rfl rfl ?_
      refine sn_gR (k := 1) (pc' := 26) ci_6 rfl (Or.inr ⟨_, nw137⟩) dX3_ofSigns_23 rfl (fun v3 => ?_)
      refine sn_iload (v := x5) (pc' := 28) dX3_ofSigns_26 rfl rfl ?_
      refine sn_cV (r := v3) (st := []) (As := [.int x5]) (st2 := (fun v => .int v :: [])) (pc' := 31) ci_9 (fun t => c_X8_get G t x5) cw_X8_get rfl rfl tw536 tw497 tw496 rfl rfl cat_nil rfl (fun _ => rfl) dX3_ofSigns_28 rfl (fun v4 => ?_)
      refine sn_iload (v := x4) (pc' := 33) dX3_ofSigns_31 rfl rfl ?_
      refine sn_ic_le (pt := 38) (pf := 36) dX3_ofSigns_33 rfl rfl ?_ ?_
      · refine sn_iinc (v := x5) (w := 1) (L' := [some (va_rf x0), none, some (.int x2), some (.int x3), some (.int x4), some (.int (x5 + (1 : Int32)))]) (pc' := 41) dX3_ofSigns_38 rfl rfl rfl (by decide) rfl ?_
        refine sn_goto (pc' := 3) dX3_ofSigns_41 rfl ?_
        exact sn_weak (le_s (le_n (le_s (le_s (le_s (le_s le_e)))))) (hk3 x0 x2 x3 x4 (x5 + (1 : Int32)))
      · refine sn_iconst (v := (0 : Int32)) (pc' := 37) dX3_ofSigns_36 rfl (by decide) ?_
        exact sn_iret dX3_ofSigns_37 rfl (by decide)
set_option maxRecDepth 100000 in
set_option maxHeartbeats 4000000 in
theorem s_X3_ofSigns_3 (G : GG)   : ∀ (n : Nat) (x0 : Option Nat) (x2 : Int32) (x3 : Int32) (x4 : Int32) (x5 : Int32), Sn G yX3_ofSigns cX3_ofSigns 6 (some FieldType.boolean) 1 21 (fun v : Int32 => some (.int v)) (X3_ofSigns_3  n x0 x2 x3 x4 x5) 3 [some (va_rf x0), none, some (.int x2), some (.int x3), some (.int x4), some (.int x5)] [] := by
  intro n
  induction n with
  | zero => intro x0 x2 x3 x4 x5; exact sn_mf
  | succ n ih => intro x0 x2 x3 x4 x5; exact s_X3_ofSigns_3_st G   (X3_ofSigns_3  n) ih x0 x2 x3 x4 x5
set_option maxRecDepth 100000 in
set_option maxHeartbeats 4000000 in
theorem s_X3_ofSigns (G : GG) (a0 : Option Nat) (a1 : Int32) (a2 : Int32) (a3 : Int32) (a4 : Int32) : Sn G yX3_ofSigns cX3_ofSigns 6 (some FieldType.boolean) 1 21 (fun v : Int32 => some (.int v)) (X3_ofSigns a0 a1 a2 a3 a4) 0 [some (va_rf a0), some (.int a1), some (.int a2), some (.int a3), some (.int a4), none] [] := by
  unfold X3_ofSigns
  refine sn_iload_n (v := a1) (pc' := 1) dX3_ofSigns_0 rfl rfl rfl ?_
  refine sn_istore (v := a1) (L' := [some (va_rf a0), some (.int a1), some (.int a2), some (.int a3), some (.int a4), some (.int a1)]) (pc' := 3) dX3_ofSigns_1 rfl rfl rfl ?_
  exact sn_weak (le_s (le_n (le_s (le_s (le_s (le_s le_e)))))) (s_X3_ofSigns_3 G LFU a0 a2 a3 a4 a1)
theorem c_X3_ofSigns (G : GG) (a0 : Option Nat) (a1 : Int32) (a2 : Int32) (a3 : Int32) (a4 : Int32) : Cal G yX3_ofSigns cX3_ofSigns 6 (some FieldType.boolean) 1 21 (fun v : Int32 => some (.int v)) (X3_ofSigns a0 a1 a2 a3 a4) [va_rf a0, .int a1, .int a2, .int a3, .int a4] :=
  Cal.of (by decide) (cat_q (cat_i (cat_i (cat_i (cat_i cat_nil))))) rfl (sn_weak (le_s (le_s (le_s (le_s (le_s (le_z le_e)))))) (s_X3_ofSigns G a0 a1 a2 a3 a4))
theorem cw_X3_ofSigns : CW yX3_ofSigns cX3_ofSigns 6 (some FieldType.boolean) 5 := ⟨tw554, tw19, by decide, by decide +kernel⟩
/-! X6_slotOf -/
theorem dX6_slotOf_0 : decode cX6_slotOf 0 = .ok (.iload_n 2, 1) := by decide +kernel
theorem dX6_slotOf_1 : decode cX6_slotOf 1 = .ok (.iconst 1, 1) := by decide +kernel
theorem dX6_slotOf_2 : decode cX6_slotOf 2 = .ok (.if_icmp .lt 12, 3) := by decide +kernel
theorem dX6_slotOf_5 : decode cX6_slotOf 5 = .ok (.iload_n 2, 1) := by decide +kernel
theorem dX6_slotOf_6 : decode cX6_slotOf 6 = .ok (.aload_n 0, 1) := by decide +kernel
theorem dX6_slotOf_7 : decode cX6_slotOf 7 = .ok (.iload_n 1, 1) := by decide +kernel
theorem dX6_slotOf_8 : decode cX6_slotOf 8 = .ok (.invokevirtual 51, 3) := by decide +kernel
theorem dX6_slotOf_11 : decode cX6_slotOf 11 = .ok (.if_icmp .le 7, 3) := by decide +kernel
theorem dX6_slotOf_14 : decode cX6_slotOf 14 = .ok (.iconst (-1), 1) := by decide +kernel
theorem dX6_slotOf_15 : decode cX6_slotOf 15 = .ok (.goto 11, 3) := by decide +kernel
theorem dX6_slotOf_18 : decode cX6_slotOf 18 = .ok (.iload_n 1, 1) := by decide +kernel
theorem dX6_slotOf_19 : decode cX6_slotOf 19 = .ok (.bipush 12, 2) := by decide +kernel
theorem dX6_slotOf_21 : decode cX6_slotOf 21 = .ok (.imul, 1) := by decide +kernel
theorem dX6_slotOf_22 : decode cX6_slotOf 22 = .ok (.iload_n 2, 1) := by decide +kernel
theorem dX6_slotOf_23 : decode cX6_slotOf 23 = .ok (.iadd, 1) := by decide +kernel
theorem dX6_slotOf_24 : decode cX6_slotOf 24 = .ok (.iconst 1, 1) := by decide +kernel
theorem dX6_slotOf_25 : decode cX6_slotOf 25 = .ok (.isub, 1) := by decide +kernel
theorem dX6_slotOf_26 : decode cX6_slotOf 26 = .ok (.ireturn, 1) := by decide +kernel
def X6_slotOf (this : Nat) (a1 : Int32) (a2 : Int32) : MM Int32 :=
  if a2 < (1 : Int32) then (mr (-1 : Int32)) else (mb (wc 7 (some this) fun t => X6_sizeOf t a1) fun v1 =>
  if a2 ≤ v1 then (mr (((a1 * (12 : Int32)) + a2) - (1 : Int32))) else (mr (-1 : Int32)))
set_option maxRecDepth 100000 in
set_option maxHeartbeats 4000000 in
theorem s_X6_slotOf (G : GG) (this : Nat) (a1 : Int32) (a2 : Int32) : Sn G yX6_slotOf cX6_slotOf 3 (some FieldType.int) 1 21 (fun v : Int32 => some (.int v)) (X6_slotOf this a1 a2) 0 [some (va_rf (some this)), some (.int a1), some (.int a2)] [] := by
  unfold X6_slotOf
  refine sn_iload_n (v := a2) (pc' := 1) dX6_slotOf_0 rfl rfl rfl ?_
  refine sn_iconst (v := (1 : Int32)) (pc' := 2) dX6_slotOf_1 rfl (by decide) ?_
  refine sn_ic_lt (pt := 14) (pf := 5) dX6_slotOf_2 rfl rfl ?_ ?_
  · refine sn_iconst (v := (-1 : Int32)) (pc' := 15) dX6_slotOf_14 rfl (by decide) ?_
    refine sn_goto (pc' := 26) dX6_slotOf_15 rfl ?_
    exact sn_iret dX6_slotOf_26 rfl rfl
  · refine sn_iload_n (v := a2) (pc' := 6) dX6_slotOf_5 rfl rfl rfl ?_
    refine sn_aload_n (v := (some this)) (pc' := 7) dX6_slotOf_6 rfl rfl rfl ?_
    refine sn_iload_n (v := a1) (pc' := 8) dX6_slotOf_7 rfl rfl rfl ?_
    refine sn_cV (r := (some this)) (st := [.int a2]) (As := [.int a1]) (st2 := (fun v => .int v :: [.int a2])) (pc' := 11) ci_7 (fun t => c_X6_sizeOf G t a1) cw_X6_sizeOf rfl rfl tw562 tw539 tw538 rfl rfl (cat_i cat_nil) rfl (fun _ => rfl) dX6_slotOf_8 rfl (fun v1 => ?_)
    refine sn_ic_le (pt := 18) (pf := 14) dX6_slotOf_11 rfl rfl ?_ ?_
    · refine sn_iload_n (v := a1) (pc' := 19) dX6_slotOf_18 rfl rfl rfl ?_
      refine sn_bipush (v := (12 : Int32)) (pc' := 21) dX6_slotOf_19 rfl (by decide) ?_
      refine sn_imul (pc' := 22) dX6_slotOf_21 rfl ?_
      refine sn_iload_n (v := a2) (pc' := 23) dX6_slotOf_22 rfl rfl rfl ?_
      refine sn_iadd (pc' := 24) dX6_slotOf_23 rfl ?_
      refine sn_iconst (v := (1 : Int32)) (pc' := 25) dX6_slotOf_24 rfl (by decide) ?_
      refine sn_isub (pc' := 26) dX6_slotOf_25 rfl ?_
      exact sn_iret dX6_slotOf_26 rfl rfl
    · refine sn_iconst (v := (-1 : Int32)) (pc' := 15) dX6_slotOf_14 rfl (by decide) ?_
      refine sn_goto (pc' := 26) dX6_slotOf_15 rfl ?_
      exact sn_iret dX6_slotOf_26 rfl rfl
theorem c_X6_slotOf (G : GG) (this : Nat) (a1 : Int32) (a2 : Int32) : Cal G yX6_slotOf cX6_slotOf 3 (some FieldType.int) 1 21 (fun v : Int32 => some (.int v)) (X6_slotOf this a1 a2) [.ref this, .int a1, .int a2] :=
  Cal.of (by decide) (cat_t (cat_i (cat_i cat_nil))) rfl (sn_weak (le_s (le_s (le_s le_e))) (s_X6_slotOf G this a1 a2))
theorem cw_X6_slotOf : CW yX6_slotOf cX6_slotOf 3 (some FieldType.int) 2 := ⟨tw561, tw8, by decide, by decide +kernel⟩
/-! X6_takesChange -/
theorem dX6_takesChange_0 : decode cX6_takesChange 0 = .ok (.iload_n 1, 1) := by decide +kernel
theorem dX6_takesChange_1 : decode cX6_takesChange 1 = .ok (.ifCond .lt 10, 3) := by decide +kernel
theorem dX6_takesChange_4 : decode cX6_takesChange 4 = .ok (.iload_n 1, 1) := by decide +kernel
theorem dX6_takesChange_5 : decode cX6_takesChange 5 = .ok (.sipush 852, 3) := by decide +kernel
theorem dX6_takesChange_8 : decode cX6_takesChange 8 = .ok (.if_icmp .lt 5, 3) := by decide +kernel
theorem dX6_takesChange_11 : decode cX6_takesChange 11 = .ok (.iconst 0, 1) := by decide +kernel
theorem dX6_takesChange_12 : decode cX6_takesChange 12 = .ok (.ireturn, 1) := by decide +kernel
theorem dX6_takesChange_13 : decode cX6_takesChange 13 = .ok (.iload_n 2, 1) := by decide +kernel
theorem dX6_takesChange_14 : decode cX6_takesChange 14 = .ok (.bipush 43, 2) := by decide +kernel
theorem dX6_takesChange_16 : decode cX6_takesChange 16 = .ok (.if_icmp .ne 10, 3) := by decide +kernel
theorem dX6_takesChange_19 : decode cX6_takesChange 19 = .ok (.aload_n 0, 1) := by decide +kernel
theorem dX6_takesChange_20 : decode cX6_takesChange 20 = .ok (.getfield 22, 3) := by decide +kernel
theorem dX6_takesChange_23 : decode cX6_takesChange 23 = .ok (.goto 7, 3) := by decide +kernel
theorem dX6_takesChange_26 : decode cX6_takesChange 26 = .ok (.aload_n 0, 1) := by decide +kernel
theorem dX6_takesChange_27 : decode cX6_takesChange 27 = .ok (.getfield 18, 3) := by decide +kernel
theorem dX6_takesChange_30 : decode cX6_takesChange 30 = .ok (.astore 4, 2) := by decide +kernel
theorem dX6_takesChange_32 : decode cX6_takesChange 32 = .ok (.aload 4, 2) := by decide +kernel
theorem dX6_takesChange_34 : decode cX6_takesChange 34 = .ok (.iload_n 1, 1) := by decide +kernel
theorem dX6_takesChange_35 : decode cX6_takesChange 35 = .ok (.baload, 1) := by decide +kernel
theorem dX6_takesChange_36 : decode cX6_takesChange 36 = .ok (.ifCond .eq 5, 3) := by decide +kernel
theorem dX6_takesChange_39 : decode cX6_takesChange 39 = .ok (.iconst 0, 1) := by decide +kernel
theorem dX6_takesChange_40 : decode cX6_takesChange 40 = .ok (.ireturn, 1) := by decide +kernel
theorem dX6_takesChange_41 : decode cX6_takesChange 41 = .ok (.aload 4, 2) := by decide +kernel
theorem dX6_takesChange_43 : decode cX6_takesChange 43 = .ok (.iload_n 1, 1) := by decide +kernel
theorem dX6_takesChange_44 : decode cX6_takesChange 44 = .ok (.iload_n 2, 1) := by decide +kernel
theorem dX6_takesChange_45 : decode cX6_takesChange 45 = .ok (.bipush 43, 2) := by decide +kernel
theorem dX6_takesChange_47 : decode cX6_takesChange 47 = .ok (.if_icmp .ne 7, 3) := by decide +kernel
theorem dX6_takesChange_50 : decode cX6_takesChange 50 = .ok (.iload_n 3, 1) := by decide +kernel
theorem dX6_takesChange_51 : decode cX6_takesChange 51 = .ok (.goto 4, 3) := by decide +kernel
theorem dX6_takesChange_54 : decode cX6_takesChange 54 = .ok (.iload_n 2, 1) := by decide +kernel
theorem dX6_takesChange_55 : decode cX6_takesChange 55 = .ok (.i2b, 1) := by decide +kernel
theorem dX6_takesChange_56 : decode cX6_takesChange 56 = .ok (.bastore, 1) := by decide +kernel
theorem dX6_takesChange_57 : decode cX6_takesChange 57 = .ok (.iconst 1, 1) := by decide +kernel
theorem dX6_takesChange_58 : decode cX6_takesChange 58 = .ok (.ireturn, 1) := by decide +kernel
def X6_takesChange_30  (x1 : Int32) (x2 : Int32) (x3 : Int32) (y0 : Option Nat) : MM Int32 :=
  mb (aB y0 x1) fun v1 =>
  if v1 = 0 then (if x2 = (43 : Int32) then (mb (sB y0 x1 ((x3).toInt8.toInt32)) fun _ =>
  mr (1 : Int32)) else (mb (sB y0 x1 ((x2).toInt8.toInt32)) fun _ =>
  mr (1 : Int32))) else (mr (0 : Int32))
def X6_takesChange (this : Nat) (a1 : Int32) (a2 : Int32) (a3 : Int32) : MM Int32 :=
  if a1 < 0 then (mr (0 : Int32)) else (if a1 < (852 : Int32) then (if a2 = (43 : Int32) then (mb (gR 7 (some this) 3) fun v1 =>
  (X6_takesChange_30 a1 a2 a3 v1)) else (mb (gR 7 (some this) 2) fun v2 =>
  (X6_takesChange_30 a1 a2 a3 v2))) else (mr (0 : Int32)))
set_option maxRecDepth 100000 in
set_option maxHeartbeats 4000000 in
theorem s_X6_takesChange_30 (G : GG)   (x1 : Int32) (x2 : Int32) (x3 : Int32) (y0 : Option Nat) : Sn G yX6_takesChange cX6_takesChange 5 (some FieldType.boolean) 0 0 (fun v : Int32 => some (.int v)) (X6_takesChange_30  x1 x2 x3 y0) 30 [none, some (.int x1), some (.int x2), some (.int x3), none] [va_rf y0] := by
  unfold X6_takesChange_30
  refine sn_astore (v := y0) (L' := [none, some (.int x1), some (.int x2), some (.int x3), some (va_rf y0)]) (pc' := 32) dX6_takesChange_30 rfl rfl rfl ?_
  refine sn_aload (v := y0) (pc' := 34) dX6_takesChange_32 rfl rfl ?_
  refine sn_iload_n (v := x1) (pc' := 35) dX6_takesChange_34 rfl rfl rfl ?_
  refine sn_aB (pc' := 36) dX6_takesChange_35 rfl (fun v1 => ?_)
  refine sn_if_eq (pt := 41) (pf := 39) dX6_takesChange_36 rfl rfl ?_ ?_
  · refine sn_aload (v := y0) (pc' := 43) dX6_takesChange_41 rfl rfl ?_
    refine sn_iload_n (v := x1) (pc' := 44) dX6_takesChange_43 rfl rfl rfl ?_
    refine sn_iload_n (v := x2) (pc' := 45) dX6_takesChange_44 rfl rfl rfl ?_
    refine sn_bipush (v := (43 : Int32)) (pc' := 47) dX6_takesChange_45 rfl (by decide) ?_
    refine sn_ic_ne (pt := 54) (pf := 50) dX6_takesChange_47 rfl rfl ?_ ?_
    · refine sn_iload_n (v := x3) (pc' := 51) dX6_takesChange_50 rfl rfl rfl ?_
      refine sn_goto (pc' := 55) dX6_takesChange_51 rfl ?_
      refine sn_i2b (pc' := 56) dX6_takesChange_55 rfl ?_
      refine sn_sB (pc' := 57) dX6_takesChange_56 rfl (fun _ => ?_)
      refine sn_iconst (v := (1 : Int32)) (pc' := 58) dX6_takesChange_57 rfl (by decide) ?_
      exact sn_iret dX6_takesChange_58 rfl (by decide)
    · refine sn_iload_n (v := x2) (pc' := 55) dX6_takesChange_54 rfl rfl rfl ?_
      refine sn_i2b (pc' := 56) dX6_takesChange_55 rfl ?_
      refine sn_sB (pc' := 57) dX6_takesChange_56 rfl (fun _ => ?_)
      refine sn_iconst (v := (1 : Int32)) (pc' := 58) dX6_takesChange_57 rfl (by decide) ?_
      exact sn_iret dX6_takesChange_58 rfl (by decide)
  · refine sn_iconst (v := (0 : Int32)) (pc' := 40) dX6_takesChange_39 rfl (by decide) ?_
    exact sn_iret dX6_takesChange_40 rfl (by decide)
set_option maxRecDepth 100000 in
set_option maxHeartbeats 4000000 in
theorem s_X6_takesChange (G : GG) (this : Nat) (a1 : Int32) (a2 : Int32) (a3 : Int32) : Sn G yX6_takesChange cX6_takesChange 5 (some FieldType.boolean) 0 0 (fun v : Int32 => some (.int v)) (X6_takesChange this a1 a2 a3) 0 [some (va_rf (some this)), some (.int a1), some (.int a2), some (.int a3), none] [] := by
  unfold X6_takesChange
  refine sn_iload_n (v := a1) (pc' := 1) dX6_takesChange_0 rfl rfl rfl ?_
  refine sn_if_lt (pt := 11) (pf := 4) dX6_takesChange_1 rfl rfl ?_ ?_
  · refine sn_iconst (v := (0 : Int32)) (pc' := 12) dX6_takesChange_11 rfl (by decide) ?_
    exact sn_iret dX6_takesChange_12 rfl (by decide)
  · refine sn_iload_n (v := a1) (pc' := 5) dX6_takesChange_4 rfl rfl rfl ?_
    refine sn_sipush (v := (852 : Int32)) (pc' := 8) dX6_takesChange_5 rfl (by decide) ?_
    refine sn_ic_lt (pt := 13) (pf := 11) dX6_takesChange_8 rfl rfl ?_ ?_
    · refine sn_iload_n (v := a2) (pc' := 14) dX6_takesChange_13 rfl rfl rfl ?_
      refine sn_bipush (v := (43 : Int32)) (pc' := 16) dX6_takesChange_14 rfl (by decide) ?_
      refine sn_ic_ne (pt := 26) (pf := 19) dX6_takesChange_16 rfl rfl ?_ ?_
      · refine sn_aload_n (v := (some this)) (pc' := 20) dX6_takesChange_19 rfl rfl rfl ?_
        refine sn_gR (k := 3) (pc' := 23) ci_7 rfl (Or.inl tw189) dX6_takesChange_20 rfl (fun v1 => ?_)
        refine sn_goto (pc' := 30) dX6_takesChange_23 rfl ?_
        exact sn_weak (le_n (le_s (le_s (le_s (le_n le_e))))) (s_X6_takesChange_30 G a1 a2 a3 v1)
      · refine sn_aload_n (v := (some this)) (pc' := 27) dX6_takesChange_26 rfl rfl rfl ?_
        refine sn_gR (k := 2) (pc' := 30) ci_7 rfl (Or.inl tw188) dX6_takesChange_27 rfl (fun v2 => ?_)
        exact sn_weak (le_n (le_s (le_s (le_s (le_n le_e))))) (s_X6_takesChange_30 G a1 a2 a3 v2)
    · refine sn_iconst (v := (0 : Int32)) (pc' := 12) dX6_takesChange_11 rfl (by decide) ?_
      exact sn_iret dX6_takesChange_12 rfl (by decide)
theorem c_X6_takesChange (G : GG) (this : Nat) (a1 : Int32) (a2 : Int32) (a3 : Int32) : Cal G yX6_takesChange cX6_takesChange 5 (some FieldType.boolean) 0 0 (fun v : Int32 => some (.int v)) (X6_takesChange this a1 a2 a3) [.ref this, .int a1, .int a2, .int a3] :=
  Cal.of (by decide) (cat_t (cat_i (cat_i (cat_i cat_nil)))) rfl (sn_weak (le_s (le_s (le_s (le_s (le_z le_e))))) (s_X6_takesChange G this a1 a2 a3))
theorem cw_X6_takesChange : CW yX6_takesChange cX6_takesChange 5 (some FieldType.boolean) 3 := ⟨tw566, tw8, by decide, by decide +kernel⟩
/-! X3_ofChanges -/
theorem dX3_ofChanges_0 : decode cX3_ofChanges 0 = .ok (.iload_n 1, 1) := by decide +kernel
theorem dX3_ofChanges_1 : decode cX3_ofChanges 1 = .ok (.istore 4, 2) := by decide +kernel
theorem dX3_ofChanges_3 : decode cX3_ofChanges 3 = .ok (.iload 4, 2) := by decide +kernel
theorem dX3_ofChanges_5 : decode cX3_ofChanges 5 = .ok (.iload_n 2, 1) := by decide +kernel
theorem dX3_ofChanges_6 : decode cX3_ofChanges 6 = .ok (.if_icmp .ge 37, 3) := by decide +kernel
theorem dX3_ofChanges_9 : decode cX3_ofChanges 9 = .ok (.aload_n 3, 1) := by decide +kernel
theorem dX3_ofChanges_10 : decode cX3_ofChanges 10 = .ok (.aload_n 0, 1) := by decide +kernel
theorem dX3_ofChanges_11 : decode cX3_ofChanges 11 = .ok (.getfield 80, 3) := by decide +kernel
theorem dX3_ofChanges_14 : decode cX3_ofChanges 14 = .ok (.iload 4, 2) := by decide +kernel
theorem dX3_ofChanges_16 : decode cX3_ofChanges 16 = .ok (.invokevirtual 41, 3) := by decide +kernel
theorem dX3_ofChanges_19 : decode cX3_ofChanges 19 = .ok (.aload_n 0, 1) := by decide +kernel
theorem dX3_ofChanges_20 : decode cX3_ofChanges 20 = .ok (.getfield 85, 3) := by decide +kernel
theorem dX3_ofChanges_23 : decode cX3_ofChanges 23 = .ok (.iload 4, 2) := by decide +kernel
theorem dX3_ofChanges_25 : decode cX3_ofChanges 25 = .ok (.invokevirtual 41, 3) := by decide +kernel
theorem dX3_ofChanges_28 : decode cX3_ofChanges 28 = .ok (.invokevirtual 88, 3) := by decide +kernel
theorem dX3_ofChanges_31 : decode cX3_ofChanges 31 = .ok (.iconst (-1), 1) := by decide +kernel
theorem dX3_ofChanges_32 : decode cX3_ofChanges 32 = .ok (.if_icmp .ne 5, 3) := by decide +kernel
theorem dX3_ofChanges_35 : decode cX3_ofChanges 35 = .ok (.iconst 4, 1) := by decide +kernel
theorem dX3_ofChanges_36 : decode cX3_ofChanges 36 = .ok (.ireturn, 1) := by decide +kernel
theorem dX3_ofChanges_37 : decode cX3_ofChanges 37 = .ok (.iinc 4 1, 3) := by decide +kernel
theorem dX3_ofChanges_40 : decode cX3_ofChanges 40 = .ok (.goto (-37), 3) := by decide +kernel
theorem dX3_ofChanges_43 : decode cX3_ofChanges 43 = .ok (.iload_n 1, 1) := by decide +kernel
theorem dX3_ofChanges_44 : decode cX3_ofChanges 44 = .ok (.istore 4, 2) := by decide +kernel
theorem dX3_ofChanges_46 : decode cX3_ofChanges 46 = .ok (.iload 4, 2) := by decide +kernel
theorem dX3_ofChanges_48 : decode cX3_ofChanges 48 = .ok (.iload_n 2, 1) := by decide +kernel
theorem dX3_ofChanges_49 : decode cX3_ofChanges 49 = .ok (.if_icmp .ge 48, 3) := by decide +kernel
theorem dX3_ofChanges_52 : decode cX3_ofChanges 52 = .ok (.aload_n 0, 1) := by decide +kernel
theorem dX3_ofChanges_53 : decode cX3_ofChanges 53 = .ok (.getfield 92, 3) := by decide +kernel
theorem dX3_ofChanges_56 : decode cX3_ofChanges 56 = .ok (.iload 4, 2) := by decide +kernel
theorem dX3_ofChanges_58 : decode cX3_ofChanges 58 = .ok (.invokevirtual 41, 3) := by decide +kernel
theorem dX3_ofChanges_61 : decode cX3_ofChanges 61 = .ok (.istore 5, 2) := by decide +kernel
theorem dX3_ofChanges_63 : decode cX3_ofChanges 63 = .ok (.aload_n 0, 1) := by decide +kernel
theorem dX3_ofChanges_64 : decode cX3_ofChanges 64 = .ok (.getfield 95, 3) := by decide +kernel
theorem dX3_ofChanges_67 : decode cX3_ofChanges 67 = .ok (.iload 4, 2) := by decide +kernel
theorem dX3_ofChanges_69 : decode cX3_ofChanges 69 = .ok (.invokevirtual 41, 3) := by decide +kernel
theorem dX3_ofChanges_72 : decode cX3_ofChanges 72 = .ok (.bipush 43, 2) := by decide +kernel
theorem dX3_ofChanges_74 : decode cX3_ofChanges 74 = .ok (.if_icmp .ne 17, 3) := by decide +kernel
theorem dX3_ofChanges_77 : decode cX3_ofChanges 77 = .ok (.iload 5, 2) := by decide +kernel
theorem dX3_ofChanges_79 : decode cX3_ofChanges 79 = .ok (.iconst 1, 1) := by decide +kernel
theorem dX3_ofChanges_80 : decode cX3_ofChanges 80 = .ok (.if_icmp .lt 9, 3) := by decide +kernel
theorem dX3_ofChanges_83 : decode cX3_ofChanges 83 = .ok (.iload 5, 2) := by decide +kernel
theorem dX3_ofChanges_85 : decode cX3_ofChanges 85 = .ok (.iconst 4, 1) := by decide +kernel
theorem dX3_ofChanges_86 : decode cX3_ofChanges 86 = .ok (.if_icmp .le 5, 3) := by decide +kernel
theorem dX3_ofChanges_89 : decode cX3_ofChanges 89 = .ok (.iconst 5, 1) := by decide +kernel
theorem dX3_ofChanges_90 : decode cX3_ofChanges 90 = .ok (.ireturn, 1) := by decide +kernel
theorem dX3_ofChanges_91 : decode cX3_ofChanges 91 = .ok (.iinc 4 1, 3) := by decide +kernel
theorem dX3_ofChanges_94 : decode cX3_ofChanges 94 = .ok (.goto (-48), 3) := by decide +kernel
theorem dX3_ofChanges_97 : decode cX3_ofChanges 97 = .ok (.iload_n 1, 1) := by decide +kernel
theorem dX3_ofChanges_98 : decode cX3_ofChanges 98 = .ok (.istore 4, 2) := by decide +kernel
theorem dX3_ofChanges_100 : decode cX3_ofChanges 100 = .ok (.iload 4, 2) := by decide +kernel
theorem dX3_ofChanges_102 : decode cX3_ofChanges 102 = .ok (.iload_n 2, 1) := by decide +kernel
theorem dX3_ofChanges_103 : decode cX3_ofChanges 103 = .ok (.if_icmp .ge 63, 3) := by decide +kernel
theorem dX3_ofChanges_106 : decode cX3_ofChanges 106 = .ok (.aload_n 3, 1) := by decide +kernel
theorem dX3_ofChanges_107 : decode cX3_ofChanges 107 = .ok (.aload_n 0, 1) := by decide +kernel
theorem dX3_ofChanges_108 : decode cX3_ofChanges 108 = .ok (.getfield 80, 3) := by decide +kernel
theorem dX3_ofChanges_111 : decode cX3_ofChanges 111 = .ok (.iload 4, 2) := by decide +kernel
theorem dX3_ofChanges_113 : decode cX3_ofChanges 113 = .ok (.invokevirtual 41, 3) := by decide +kernel
theorem dX3_ofChanges_116 : decode cX3_ofChanges 116 = .ok (.aload_n 0, 1) := by decide +kernel
theorem dX3_ofChanges_117 : decode cX3_ofChanges 117 = .ok (.getfield 85, 3) := by decide +kernel
theorem dX3_ofChanges_120 : decode cX3_ofChanges 120 = .ok (.iload 4, 2) := by decide +kernel
theorem dX3_ofChanges_122 : decode cX3_ofChanges 122 = .ok (.invokevirtual 41, 3) := by decide +kernel
theorem dX3_ofChanges_125 : decode cX3_ofChanges 125 = .ok (.invokevirtual 88, 3) := by decide +kernel
theorem dX3_ofChanges_128 : decode cX3_ofChanges 128 = .ok (.istore 5, 2) := by decide +kernel
theorem dX3_ofChanges_130 : decode cX3_ofChanges 130 = .ok (.aload_n 3, 1) := by decide +kernel
theorem dX3_ofChanges_131 : decode cX3_ofChanges 131 = .ok (.iload 5, 2) := by decide +kernel
theorem dX3_ofChanges_133 : decode cX3_ofChanges 133 = .ok (.aload_n 0, 1) := by decide +kernel
theorem dX3_ofChanges_134 : decode cX3_ofChanges 134 = .ok (.getfield 95, 3) := by decide +kernel
theorem dX3_ofChanges_137 : decode cX3_ofChanges 137 = .ok (.iload 4, 2) := by decide +kernel
theorem dX3_ofChanges_139 : decode cX3_ofChanges 139 = .ok (.invokevirtual 41, 3) := by decide +kernel
theorem dX3_ofChanges_142 : decode cX3_ofChanges 142 = .ok (.aload_n 0, 1) := by decide +kernel
theorem dX3_ofChanges_143 : decode cX3_ofChanges 143 = .ok (.getfield 92, 3) := by decide +kernel
theorem dX3_ofChanges_146 : decode cX3_ofChanges 146 = .ok (.iload 4, 2) := by decide +kernel
theorem dX3_ofChanges_148 : decode cX3_ofChanges 148 = .ok (.invokevirtual 41, 3) := by decide +kernel
theorem dX3_ofChanges_151 : decode cX3_ofChanges 151 = .ok (.invokevirtual 98, 3) := by decide +kernel
theorem dX3_ofChanges_154 : decode cX3_ofChanges 154 = .ok (.ifCond .ne 6, 3) := by decide +kernel
theorem dX3_ofChanges_157 : decode cX3_ofChanges 157 = .ok (.bipush 6, 2) := by decide +kernel
theorem dX3_ofChanges_159 : decode cX3_ofChanges 159 = .ok (.ireturn, 1) := by decide +kernel
theorem dX3_ofChanges_160 : decode cX3_ofChanges 160 = .ok (.iinc 4 1, 3) := by decide +kernel
theorem dX3_ofChanges_163 : decode cX3_ofChanges 163 = .ok (.goto (-63), 3) := by decide +kernel
theorem dX3_ofChanges_166 : decode cX3_ofChanges 166 = .ok (.iconst 0, 1) := by decide +kernel
theorem dX3_ofChanges_167 : decode cX3_ofChanges 167 = .ok (.ireturn, 1) := by decide +kernel
def X3_ofChanges_91 (k46 : Option Nat → Int32 → Int32 → Option Nat → Int32 → MM Int32) (x0 : Option Nat) (x1 : Int32) (x2 : Int32) (x3 : Option Nat) (x4 : Int32) : MM Int32 :=
  (k46 x0 x1 x2 x3 (x4 + (1 : Int32)))
def X3_ofChanges_100_st  (k100 : Option Nat → Int32 → Option Nat → Int32 → MM Int32) (x0 : Option Nat) (x2 : Int32) (x3 : Option Nat) (x4 : Int32) : MM Int32 :=
  if x2 ≤ x4 then (mr (0 : Int32)) else (mb (gR 6 x0 1) fun v1 =>
  mb (wc 9 v1 fun t => X8_get t x4) fun v2 =>
  mb (gR 6 x0 2) fun v3 =>
  mb (wc 9 v3 fun t => X8_get t x4) fun v4 =>
  mb (wc 7 x3 fun t => X6_slotOf t v2 v4) fun v5 =>
  mb (gR 6 x0 0) fun v6 =>
  mb (wc 9 v6 fun t => X8_get t x4) fun v7 =>
  mb (gR 6 x0 3) fun v8 =>
  mb (wc 9 v8 fun t => X8_get t x4) fun v9 =>
  mb (wc 7 x3 fun t => X6_takesChange t v5 v7 v9) fun v10 =>
  if v10 = 0 then (mr (6 : Int32)) else ((k100 x0 x2 x3 (x4 + (1 : Int32)))))
def X3_ofChanges_100  : Nat → Option Nat → Int32 → Option Nat → Int32 → MM Int32
  | 0 => fun _ _ _ _ => mf
  | n + 1 => fun x0 x2 x3 x4 => X3_ofChanges_100_st  (X3_ofChanges_100  n) x0 x2 x3 x4
def X3_ofChanges_97  (x0 : Option Nat) (x1 : Int32) (x2 : Int32) (x3 : Option Nat) : MM Int32 :=
  (X3_ofChanges_100 LFU x0 x2 x3 x1)
def X3_ofChanges_46_st  (k46 : Option Nat → Int32 → Int32 → Option Nat → Int32 → MM Int32) (x0 : Option Nat) (x1 : Int32) (x2 : Int32) (x3 : Option Nat) (x4 : Int32) : MM Int32 :=
  if x2 ≤ x4 then ((X3_ofChanges_97 x0 x1 x2 x3)) else (mb (gR 6 x0 3) fun v1 =>
  mb (wc 9 v1 fun t => X8_get t x4) fun v2 =>
  mb (gR 6 x0 0) fun v3 =>
  mb (wc 9 v3 fun t => X8_get t x4) fun v4 =>
  if v4 = (43 : Int32) then (if v2 < (1 : Int32) then (mr (5 : Int32)) else (if v2 ≤ (4 : Int32) then ((X3_ofChanges_91 k46 x0 x1 x2 x3 x4)) else (mr (5 : Int32)))) else ((X3_ofChanges_91 k46 x0 x1 x2 x3 x4)))
def X3_ofChanges_46  : Nat → Option Nat → Int32 → Int32 → Option Nat → Int32 → MM Int32
  | 0 => fun _ _ _ _ _ => mf
  | n + 1 => fun x0 x1 x2 x3 x4 => X3_ofChanges_46_st  (X3_ofChanges_46  n) x0 x1 x2 x3 x4
def X3_ofChanges_43  (x0 : Option Nat) (x1 : Int32) (x2 : Int32) (x3 : Option Nat) : MM Int32 :=
  (X3_ofChanges_46 LFU x0 x1 x2 x3 x1)
def X3_ofChanges_3_st  (k3 : Option Nat → Int32 → Int32 → Option Nat → Int32 → MM Int32) (x0 : Option Nat) (x1 : Int32) (x2 : Int32) (x3 : Option Nat) (x4 : Int32) : MM Int32 :=
  if x2 ≤ x4 then ((X3_ofChanges_43 x0 x1 x2 x3)) else (mb (gR 6 x0 1) fun v1 =>
  mb (wc 9 v1 fun t => X8_get t x4) fun v2 =>
  mb (gR 6 x0 2) fun v3 =>
  mb (wc 9 v3 fun t => X8_get t x4) fun v4 =>
  mb (wc 7 x3 fun t => X6_slotOf t v2 v4) fun v5 =>
  if v5 = (-1 : Int32) then (mr (4 : Int32)) else ((k3 x0 x1 x2 x3 (x4 + (1 : Int32)))))
def X3_ofChanges_3  : Nat → Option Nat → Int32 → Int32 → Option Nat → Int32 → MM Int32
  | 0 => fun _ _ _ _ _ => mf
  | n + 1 => fun x0 x1 x2 x3 x4 => X3_ofChanges_3_st  (X3_ofChanges_3  n) x0 x1 x2 x3 x4
def X3_ofChanges (a0 : Option Nat) (a1 : Int32) (a2 : Int32) (a3 : Option Nat) : MM Int32 :=
  (X3_ofChanges_3 LFU a0 a1 a2 a3 a1)
set_option maxRecDepth 100000 in
set_option maxHeartbeats 4000000 in
theorem s_X3_ofChanges_91 (G : GG) (k46 : Option Nat → Int32 → Int32 → Option Nat → Int32 → MM Int32) (hk46 : ∀ (x0 : Option Nat) (x1 : Int32) (x2 : Int32) (x3 : Option Nat) (x4 : Int32), Sn G yX3_ofChanges cX3_ofChanges 6 (some FieldType.int) 2 43 (fun v : Int32 => some (.int v)) (k46 x0 x1 x2 x3 x4) 46 [some (va_rf x0), some (.int x1), some (.int x2), some (va_rf x3), some (.int x4), none] []) (x0 : Option Nat) (x1 : Int32) (x2 : Int32) (x3 : Option Nat) (x4 : Int32) : Sn G yX3_ofChanges cX3_ofChanges 6 (some FieldType.int) 2 43 (fun v : Int32 => some (.int v)) (X3_ofChanges_91 k46 x0 x1 x2 x3 x4) 91 [some (va_rf x0), some (.int x1), some (.int x2), some (va_rf x3), some (.int x4), none] [] := by
  unfold X3_ofChanges_91
  refine sn_iinc (v := x4) (w := 1) (L' := [some (va_rf x0), some (.int x1), some (.int x2), some (va_rf x3), some (.int (x4 + (1 : Int32))), none]) (pc' := 94) dX3_ofChanges_91 rfl rfl rfl (by decide) rfl ?_
  refine sn_goto (pc' := 46) dX3_ofChanges_94 rfl ?_
  exact sn_weak (le_s (le_s (le_s (le_s (le_s (le_n le_e)))))) (hk46 x0 x1 x2 x3 (x4 + (1 : Int32)))
set_option maxRecDepth 100000 in
set_option maxHeartbeats 4000000 in
theorem s_X3_ofChanges_100_st (G : GG)   (k100 : Option Nat → Int32 → Option Nat → Int32 → MM Int32) (hk100 : ∀ (x0 : Option Nat) (x2 : Int32) (x3 : Option Nat) (x4 : Int32), Sn G yX3_ofChanges cX3_ofChanges 6 (some FieldType.int) 2 43 (fun v : Int32 => some (.int v)) (k100 x0 x2 x3 x4) 100 [some (va_rf x0), none, some (.int x2), some (va_rf x3), some (.int x4), none] []) (x0 : Option Nat) (x2 : Int32) (x3 : Option Nat) (x4 : Int32) : Sn G yX3_ofChanges cX3_ofChanges 6 (some FieldType.int) 2 43 (fun v : Int32 => some (.int v)) (X3_ofChanges_100_st  k100 x0 x2 x3 x4) 100 [some (va_rf x0), none, some (.int x2), some (va_rf x3), some (.int x4), none] [] := by
  unfold X3_ofChanges_100_st
  refine sn_iload (v := x4) (pc' := 102) dX3_ofChanges_100 rfl rfl ?_
  refine sn_iload_n (v := x2) (pc' := 103) dX3_ofChanges_102 rfl rfl rfl ?_
  refine sn_ic_ge (pt := 166) (pf := 106) dX3_ofChanges_103 rfl rfl ?_ ?_
  · refine sn_iconst (v := (0 : Int32)) (pc' := 167) dX3_ofChanges_166 rfl (by decide) ?_
    exact sn_iret dX3_ofChanges_167 rfl rfl
  · refine sn_aload_n (v := x3) (pc' := 107) dX3_ofChanges_106 rfl rfl rfl ?_
    refine sn_aload_n (v := x0) (pc' := 108) dX3_ofChanges_107 rfl rfl rfl ?_
    refine sn_gR (k := 1) (pc' := 111) ci_6 rfl (Or.inr ⟨_, nw137⟩) dX3_ofChanges_108 rfl (fun v1 => ?_)
    refine sn_iload (v := x4) (pc' := 113) dX3_ofChanges_111 rfl rfl ?_
    refine sn_cV (r := v1) (st := [va_rf x3]) (As := [.int x4]) (st2 := (fun v => .int v :: [va_rf x3])) (pc' := 116) ci_9 (fun t => c_X8_get G t x4) cw_X8_get rfl rfl tw536 tw497 tw496 rfl rfl (cat_q cat_nil) rfl (fun _ => rfl) dX3_ofChanges_113 rfl (fun v2 => ?_)
    refine sn_aload_n (v := x0) (pc' := 117) dX3_ofChanges_116 rfl rfl rfl ?_
    refine sn_gR (k := 2) (pc' := 120) ci_6 rfl (Or.inr ⟨_, nw141⟩) dX3_ofChanges_117 rfl (fun v3 => ?_)
    refine sn_iload (v := x4) (pc' := 122) dX3_ofChanges_120 rfl rfl ?_
    refine sn_cV (r := v3) (st := [.int v2, va_rf x3]) (As := [.int x4]) (st2 := (fun v => .int v :: [.int v2, va_rf x3])) (pc' := 125) ci_9 (fun t => c_X8_get G t x4) cw_X8_get rfl rfl tw536 tw497 tw496 rfl rfl (cat_i (cat_q cat_nil)) rfl (fun _ => rfl) dX3_ofChanges_122 rfl (fun v4 => ?_)
    refine sn_cV (r := x3) (st := []) (As := [.int v2, .int v4]) (st2 := (fun v => .int v :: [])) (pc' := 128) ci_7 (fun t => c_X6_slotOf G t v2 v4) cw_X6_slotOf rfl rfl tw558 tw560 tw559 rfl rfl cat_nil rfl (fun _ => rfl) dX3_ofChanges_125 rfl (fun v5 => ?_)
    refine sn_istore (v := v5) (L' := [some (va_rf x0), none, some (.int x2), some (va_rf x3), some (.int x4), some (.int v5)]) (pc' := 130) dX3_ofChanges_128 rfl rfl rfl ?_
    refine sn_aload_n (v := x3) (pc' := 131) dX3_ofChanges_130 rfl rfl rfl ?_
    refine sn_iload (v := v5) (pc' := 133) dX3_ofChanges_131 rfl rfl ?_
    refine sn_aload_n (v := x0) (pc' := 134) dX3_ofChanges_133 rfl rfl rfl ?_
    refine sn_gR (k := 0) (pc' := 137) ci_6 rfl (Or.inr ⟨_, nw134⟩) dX3_ofChanges_134 rfl (fun v6 => ?_)
    refine sn_iload (v := x4) (pc' := 139) dX3_ofChanges_137 rfl rfl ?_
    refine sn_cV (r := v6) (st := [.int v5, va_rf x3]) (As := [.int x4]) (st2 := (fun v => .int v :: [.int v5, va_rf x3])) (pc' := 142) ci_9 (fun t => c_X8_get G t x4) cw_X8_get rfl rfl tw536 tw497 tw496 rfl rfl (cat_i (cat_q cat_nil)) rfl (fun _ => rfl) dX3_ofChanges_139 rfl (fun v7 => ?_)
    refine sn_aload_n (v := x0) (pc' := 143) dX3_ofChanges_142 rfl rfl rfl ?_
    refine sn_gR (k := 3) (pc' := 146) ci_6 rfl (Or.inr ⟨_, nw145⟩) dX3_ofChanges_143 rfl (fun v8 => ?_)
    refine sn_iload (v := x4) (pc' := 148) dX3_ofChanges_146 rfl rfl ?_
    refine sn_cV (r := v8) (st := [.int v7, .int v5, va_rf x3]) (As := [.int x4]) (st2 := (fun v => .int v :: [.int v7, .int v5, va_rf x3])) (pc' := 151) ci_9 (fun t => c_X8_get G t x4) cw_X8_get rfl rfl tw536 tw497 tw496 rfl rfl (cat_i (cat_i (cat_q cat_nil))) rfl (fun _ => rfl) dX3_ofChanges_148 rfl (fun v9 => ?_)
    refine sn_cV (r := x3) (st := []) (As := [.int v5, .int v7, .int v9]) (st2 := (fun v => .int v :: [])) (pc' := 154) ci_7 (fun t => c_X6_takesChange G t v5 v7 v9) cw_X6_takesChange rfl rfl tw563 tw565 tw564 rfl rfl cat_nil rfl (fun _ => rfl) dX3_ofChanges_151 rfl (fun v10 => ?_)
    refine sn_if_ne (pt := 160) (pf := 157) dX3_ofChanges_154 rfl rfl ?_ ?_
    · refine sn_bipush (v := (6 : Int32)) (pc' := 159) dX3_ofChanges_157 rfl (by decide) ?_
      exact sn_iret dX3_ofChanges_159 rfl rfl
    · refine sn_iinc (v := x4) (w := 1) (L' := [some (va_rf x0), none, some (.int x2), some (va_rf x3), some (.int (x4 + (1 : Int32))), some (.int v5)]) (pc' := 163) dX3_ofChanges_160 rfl rfl rfl (by decide) rfl ?_
      refine sn_goto (pc' := 100) dX3_ofChanges_163 rfl ?_
      exact sn_weak (le_s (le_n (le_s (le_s (le_s (le_n le_e)))))) (hk100 x0 x2 x3 (x4 + (1 : Int32)))
set_option maxRecDepth 100000 in
set_option maxHeartbeats 4000000 in
theorem s_X3_ofChanges_100 (G : GG)   : ∀ (n : Nat) (x0 : Option Nat) (x2 : Int32) (x3 : Option Nat) (x4 : Int32), Sn G yX3_ofChanges cX3_ofChanges 6 (some FieldType.int) 2 43 (fun v : Int32 => some (.int v)) (X3_ofChanges_100  n x0 x2 x3 x4) 100 [some (va_rf x0), none, some (.int x2), some (va_rf x3), some (.int x4), none] [] := by
  intro n
  induction n with
  | zero => intro x0 x2 x3 x4; exact sn_mf
  | succ n ih => intro x0 x2 x3 x4; exact s_X3_ofChanges_100_st G   (X3_ofChanges_100  n) ih x0 x2 x3 x4
set_option maxRecDepth 100000 in
set_option maxHeartbeats 4000000 in
theorem s_X3_ofChanges_97 (G : GG)   (x0 : Option Nat) (x1 : Int32) (x2 : Int32) (x3 : Option Nat) : Sn G yX3_ofChanges cX3_ofChanges 6 (some FieldType.int) 2 43 (fun v : Int32 => some (.int v)) (X3_ofChanges_97  x0 x1 x2 x3) 97 [some (va_rf x0), some (.int x1), some (.int x2), some (va_rf x3), none, none] [] := by
  unfold X3_ofChanges_97
  refine sn_iload_n (v := x1) (pc' := 98) dX3_ofChanges_97 rfl rfl rfl ?_
  refine sn_istore (v := x1) (L' := [some (va_rf x0), some (.int x1), some (.int x2), some (va_rf x3), some (.int x1), none]) (pc' := 100) dX3_ofChanges_98 rfl rfl rfl ?_
  exact sn_weak (le_s (le_n (le_s (le_s (le_s (le_n le_e)))))) (s_X3_ofChanges_100 G LFU x0 x2 x3 x1)
set_option maxRecDepth 100000 in
set_option maxHeartbeats 4000000 in
theorem s_X3_ofChanges_46_st (G : GG)   (k46 : Option Nat → Int32 → Int32 → Option Nat → Int32 → MM Int32) (hk46 : ∀ (x0 : Option Nat) (x1 : Int32) (x2 : Int32) (x3 : Option Nat) (x4 : Int32), Sn G yX3_ofChanges cX3_ofChanges 6 (some FieldType.int) 2 43 (fun v : Int32 => some (.int v)) (k46 x0 x1 x2 x3 x4) 46 [some (va_rf x0), some (.int x1), some (.int x2), some (va_rf x3), some (.int x4), none] []) (x0 : Option Nat) (x1 : Int32) (x2 : Int32) (x3 : Option Nat) (x4 : Int32) : Sn G yX3_ofChanges cX3_ofChanges 6 (some FieldType.int) 2 43 (fun v : Int32 => some (.int v)) (X3_ofChanges_46_st  k46 x0 x1 x2 x3 x4) 46 [some (va_rf x0), some (.int x1), some (.int x2), some (va_rf x3), some (.int x4), none] [] := by
  unfold X3_ofChanges_46_st
  refine sn_iload (v := x4) (pc' := 48) dX3_ofChanges_46 rfl rfl ?_
  refine sn_iload_n (v := x2) (pc' := 49) dX3_ofChanges_48 rfl rfl rfl ?_
  refine sn_ic_ge (pt := 97) (pf := 52) dX3_ofChanges_49 rfl rfl ?_ ?_
  · exact sn_weak (le_s (le_s (le_s (le_s (le_n (le_n le_e)))))) (s_X3_ofChanges_97 G x0 x1 x2 x3)
  · refine sn_aload_n (v := x0) (pc' := 53) dX3_ofChanges_52 rfl rfl rfl ?_
    refine sn_gR (k := 3) (pc' := 56) ci_6 rfl (Or.inr ⟨_, nw145⟩) dX3_ofChanges_53 rfl (fun v1 => ?_)
    refine sn_iload (v := x4) (pc' := 58) dX3_ofChanges_56 rfl rfl ?_
    refine sn_cV (r := v1) (st := []) (As := [.int x4]) (st2 := (fun v => .int v :: [])) (pc' := 61) ci_9 (fun t => c_X8_get G t x4) cw_X8_get rfl rfl tw536 tw497 tw496 rfl rfl cat_nil rfl (fun _ => rfl) dX3_ofChanges_58 rfl (fun v2 => ?_)
    refine sn_istore (v := v2) (L' := [some (va_rf x0), some (.int x1), some (.int x2), some (va_rf x3), some (.int x4), some (.int v2)]) (pc' := 63) dX3_ofChanges_61 rfl rfl rfl ?_
    refine sn_aload_n (v := x0) (pc' := 64) dX3_ofChanges_63 rfl rfl rfl ?_
    refine sn_gR (k := 0) (pc' := 67) ci_6 rfl (Or.inr ⟨_, nw134⟩) dX3_ofChanges_64 rfl (fun v3 => ?_)
    refine sn_iload (v := x4) (pc' := 69) dX3_ofChanges_67 rfl rfl ?_
    refine sn_cV (r := v3) (st := []) (As := [.int x4]) (st2 := (fun v => .int v :: [])) (pc' := 72) ci_9 (fun t => c_X8_get G t x4) cw_X8_get rfl rfl tw536 tw497 tw496 rfl rfl cat_nil rfl (fun _ => rfl) dX3_ofChanges_69 rfl (fun v4 => ?_)
    refine sn_bipush (v := (43 : Int32)) (pc' := 74) dX3_ofChanges_72 rfl (by decide) ?_
    refine sn_ic_ne (pt := 91) (pf := 77) dX3_ofChanges_74 rfl rfl ?_ ?_
    · refine sn_iload (v := v2) (pc' := 79) dX3_ofChanges_77 rfl rfl ?_
      refine sn_iconst (v := (1 : Int32)) (pc' := 80) dX3_ofChanges_79 rfl (by decide) ?_
      refine sn_ic_lt (pt := 89) (pf := 83) dX3_ofChanges_80 rfl rfl ?_ ?_
      · refine sn_iconst (v := (5 : Int32)) (pc' := 90) dX3_ofChanges_89 rfl (by decide) ?_
        exact sn_iret dX3_ofChanges_90 rfl rfl
      · refine sn_iload (v := v2) (pc' := 85) dX3_ofChanges_83 rfl rfl ?_
        refine sn_iconst (v := (4 : Int32)) (pc' := 86) dX3_ofChanges_85 rfl (by decide) ?_
        refine sn_ic_le (pt := 91) (pf := 89) dX3_ofChanges_86 rfl rfl ?_ ?_
        · exact sn_weak (le_s (le_s (le_s (le_s (le_s (le_n le_e)))))) (s_X3_ofChanges_91 G k46 hk46 x0 x1 x2 x3 x4)
        · refine sn_iconst (v := (5 : Int32)) (pc' := 90) dX3_ofChanges_89 rfl (by decide) ?_
          exact sn_iret dX3_ofChanges_90 rfl rfl
    · exact sn_weak (le_s (le_s (le_s (le_s (le_s (le_n le_e)))))) (s_X3_ofChanges_91 G k46 hk46 x0 x1 x2 x3 x4)
set_option maxRecDepth 100000 in
set_option maxHeartbeats 4000000 in
theorem s_X3_ofChanges_46 (G : GG)   : ∀ (n : Nat) (x0 : Option Nat) (x1 : Int32) (x2 : Int32) (x3 : Option Nat) (x4 : Int32), Sn G yX3_ofChanges cX3_ofChanges 6 (some FieldType.int) 2 43 (fun v : Int32 => some (.int v)) (X3_ofChanges_46  n x0 x1 x2 x3 x4) 46 [some (va_rf x0), some (.int x1), some (.int x2), some (va_rf x3), some (.int x4), none] [] := by
  intro n
  induction n with
  | zero => intro x0 x1 x2 x3 x4; exact sn_mf
  | succ n ih => intro x0 x1 x2 x3 x4; exact s_X3_ofChanges_46_st G   (X3_ofChanges_46  n) ih x0 x1 x2 x3 x4
set_option maxRecDepth 100000 in
set_option maxHeartbeats 4000000 in
theorem s_X3_ofChanges_43 (G : GG)   (x0 : Option Nat) (x1 : Int32) (x2 : Int32) (x3 : Option Nat) : Sn G yX3_ofChanges cX3_ofChanges 6 (some FieldType.int) 2 43 (fun v : Int32 => some (.int v)) (X3_ofChanges_43  x0 x1 x2 x3) 43 [some (va_rf x0), some (.int x1), some (.int x2), some (va_rf x3), none, none] [] := by
  unfold X3_ofChanges_43
  refine sn_iload_n (v := x1) (pc' := 44) dX3_ofChanges_43 rfl rfl rfl ?_
  refine sn_istore (v := x1) (L' := [some (va_rf x0), some (.int x1), some (.int x2), some (va_rf x3), some (.int x1), none]) (pc' := 46) dX3_ofChanges_44 rfl rfl rfl ?_
  exact sn_weak (le_s (le_s (le_s (le_s (le_s (le_n le_e)))))) (s_X3_ofChanges_46 G LFU x0 x1 x2 x3 x1)
set_option maxRecDepth 100000 in
set_option maxHeartbeats 4000000 in
theorem s_X3_ofChanges_3_st (G : GG)   (k3 : Option Nat → Int32 → Int32 → Option Nat → Int32 → MM Int32) (hk3 : ∀ (x0 : Option Nat) (x1 : Int32) (x2 : Int32) (x3 : Option Nat) (x4 : Int32), Sn G yX3_ofChanges cX3_ofChanges 6 (some FieldType.int) 2 43 (fun v : Int32 => some (.int v)) (k3 x0 x1 x2 x3 x4) 3 [some (va_rf x0), some (.int x1), some (.int x2), some (va_rf x3), some (.int x4), none] []) (x0 : Option Nat) (x1 : Int32) (x2 : Int32) (x3 : Option Nat) (x4 : Int32) : Sn G yX3_ofChanges cX3_ofChanges 6 (some FieldType.int) 2 43 (fun v : Int32 => some (.int v)) (X3_ofChanges_3_st  k3 x0 x1 x2 x3 x4) 3 [some (va_rf x0), some (.int x1), some (.int x2), some (va_rf x3), some (.int x4), none] [] := by
  unfold X3_ofChanges_3_st
  refine sn_iload (v := x4) (pc' := 5) dX3_ofChanges_3 rfl rfl ?_
  refine sn_iload_n (v := x2) (pc' := 6) dX3_ofChanges_5 rfl rfl rfl ?_
  refine sn_ic_ge (pt := 43) (pf := 9) dX3_ofChanges_6 rfl rfl ?_ ?_
  · exact sn_weak (le_s (le_s (le_s (le_s (le_n (le_n le_e)))))) (s_X3_ofChanges_43 G x0 x1 x2 x3)
  · refine sn_aload_n (v := x3) (pc' := 10) dX3_ofChanges_9 rfl rfl rfl ?_
    refine sn_aload_n (v := x0) (pc' := 11) dX3_ofChanges_10 rfl rfl rfl ?_
    refine sn_gR (k := 1) (pc' := 14) ci_6 rfl (Or.inr ⟨_, nw137⟩) dX3_ofChanges_11 rfl (fun v1 => ?_)
    refine sn_iload (v := x4) (pc' := 16) dX3_ofChanges_14 rfl rfl ?_
    refine sn_cV (r := v1) (st := [va_rf x3]) (As := [.int x4]) (st2 := (fun v => .int v :: [va_rf x3])) (pc' := 19) ci_9 (fun t => c_X8_get G t x4) cw_X8_get rfl rfl tw536 tw497 tw496 rfl rfl (cat_q cat_nil) rfl (fun _ => rfl) dX3_ofChanges_16 rfl (fun v2 => ?_)
    refine sn_aload_n (v := x0) (pc' := 20) dX3_ofChanges_19 rfl rfl rfl ?_
    refine sn_gR (k := 2) (pc' := 23) ci_6 rfl (Or.inr ⟨_, nw141⟩) dX3_ofChanges_20 rfl (fun v3 => ?_)
    refine sn_iload (v := x4) (pc' := 25) dX3_ofChanges_23 rfl rfl ?_
    refine sn_cV (r := v3) (st := [.int v2, va_rf x3]) (As := [.int x4]) (st2 := (fun v => .int v :: [.int v2, va_rf x3])) (pc' := 28) ci_9 (fun t => c_X8_get G t x4) cw_X8_get rfl rfl tw536 tw497 tw496 rfl rfl (cat_i (cat_q cat_nil)) rfl (fun _ => rfl) dX3_ofChanges_25 rfl (fun v4 => ?_)
    refine sn_cV (r := x3) (st := []) (As := [.int v2, .int v4]) (st2 := (fun v => .int v :: [])) (pc' := 31) ci_7 (fun t => c_X6_slotOf G t v2 v4) cw_X6_slotOf rfl rfl tw558 tw560 tw559 rfl rfl cat_nil rfl (fun _ => rfl) dX3_ofChanges_28 rfl (fun v5 => ?_)
    refine sn_iconst (v := (-1 : Int32)) (pc' := 32) dX3_ofChanges_31 rfl (by decide) ?_
    refine sn_ic_ne (pt := 37) (pf := 35) dX3_ofChanges_32 rfl rfl ?_ ?_
    · refine sn_iconst (v := (4 : Int32)) (pc' := 36) dX3_ofChanges_35 rfl (by decide) ?_
      exact sn_iret dX3_ofChanges_36 rfl rfl
    · refine sn_iinc (v := x4) (w := 1) (L' := [some (va_rf x0), some (.int x1), some (.int x2), some (va_rf x3), some (.int (x4 + (1 : Int32))), none]) (pc' := 40) dX3_ofChanges_37 rfl rfl rfl (by decide) rfl ?_
      refine sn_goto (pc' := 3) dX3_ofChanges_40 rfl ?_
      exact sn_weak (le_s (le_s (le_s (le_s (le_s (le_n le_e)))))) (hk3 x0 x1 x2 x3 (x4 + (1 : Int32)))
set_option maxRecDepth 100000 in
set_option maxHeartbeats 4000000 in
theorem s_X3_ofChanges_3 (G : GG)   : ∀ (n : Nat) (x0 : Option Nat) (x1 : Int32) (x2 : Int32) (x3 : Option Nat) (x4 : Int32), Sn G yX3_ofChanges cX3_ofChanges 6 (some FieldType.int) 2 43 (fun v : Int32 => some (.int v)) (X3_ofChanges_3  n x0 x1 x2 x3 x4) 3 [some (va_rf x0), some (.int x1), some (.int x2), some (va_rf x3), some (.int x4), none] [] := by
  intro n
  induction n with
  | zero => intro x0 x1 x2 x3 x4; exact sn_mf
  | succ n ih => intro x0 x1 x2 x3 x4; exact s_X3_ofChanges_3_st G   (X3_ofChanges_3  n) ih x0 x1 x2 x3 x4
set_option maxRecDepth 100000 in
set_option maxHeartbeats 4000000 in
theorem s_X3_ofChanges (G : GG) (a0 : Option Nat) (a1 : Int32) (a2 : Int32) (a3 : Option Nat) : Sn G yX3_ofChanges cX3_ofChanges 6 (some FieldType.int) 2 43 (fun v : Int32 => some (.int v)) (X3_ofChanges a0 a1 a2 a3) 0 [some (va_rf a0), some (.int a1), some (.int a2), some (va_rf a3), none, none] [] := by
  unfold X3_ofChanges
  refine sn_iload_n (v := a1) (pc' := 1) dX3_ofChanges_0 rfl rfl rfl ?_
  refine sn_istore (v := a1) (L' := [some (va_rf a0), some (.int a1), some (.int a2), some (va_rf a3), some (.int a1), none]) (pc' := 3) dX3_ofChanges_1 rfl rfl rfl ?_
  exact sn_weak (le_s (le_s (le_s (le_s (le_s (le_n le_e)))))) (s_X3_ofChanges_3 G LFU a0 a1 a2 a3 a1)
theorem c_X3_ofChanges (G : GG) (a0 : Option Nat) (a1 : Int32) (a2 : Int32) (a3 : Option Nat) : Cal G yX3_ofChanges cX3_ofChanges 6 (some FieldType.int) 2 43 (fun v : Int32 => some (.int v)) (X3_ofChanges a0 a1 a2 a3) [va_rf a0, .int a1, .int a2, va_rf a3] :=
  Cal.of (by decide) (cat_q (cat_i (cat_i (cat_q cat_nil)))) rfl (sn_weak (le_s (le_s (le_s (le_s (le_z (le_z le_e)))))) (s_X3_ofChanges G a0 a1 a2 a3))
theorem cw_X3_ofChanges : CW yX3_ofChanges cX3_ofChanges 6 (some FieldType.int) 4 := ⟨tw557, tw19, by decide, by decide +kernel⟩
/-! X3_ofGroup -/
theorem dX3_ofGroup_0 : decode cX3_ofGroup 0 = .ok (.aload_n 0, 1) := by decide +kernel
theorem dX3_ofGroup_1 : decode cX3_ofGroup 1 = .ok (.getfield 14, 3) := by decide +kernel
theorem dX3_ofGroup_4 : decode cX3_ofGroup 4 = .ok (.getfield 20, 3) := by decide +kernel
theorem dX3_ofGroup_7 : decode cX3_ofGroup 7 = .ok (.iload_n 1, 1) := by decide +kernel
theorem dX3_ofGroup_8 : decode cX3_ofGroup 8 = .ok (.invokevirtual 41, 3) := by decide +kernel
theorem dX3_ofGroup_11 : decode cX3_ofGroup 11 = .ok (.istore 4, 2) := by decide +kernel
theorem dX3_ofGroup_13 : decode cX3_ofGroup 13 = .ok (.aload_n 0, 1) := by decide +kernel
theorem dX3_ofGroup_14 : decode cX3_ofGroup 14 = .ok (.getfield 14, 3) := by decide +kernel
theorem dX3_ofGroup_17 : decode cX3_ofGroup 17 = .ok (.getfield 45, 3) := by decide +kernel
theorem dX3_ofGroup_20 : decode cX3_ofGroup 20 = .ok (.iload_n 1, 1) := by decide +kernel
theorem dX3_ofGroup_21 : decode cX3_ofGroup 21 = .ok (.invokevirtual 41, 3) := by decide +kernel
theorem dX3_ofGroup_24 : decode cX3_ofGroup 24 = .ok (.istore 5, 2) := by decide +kernel
theorem dX3_ofGroup_26 : decode cX3_ofGroup 26 = .ok (.aload_n 0, 1) := by decide +kernel
theorem dX3_ofGroup_27 : decode cX3_ofGroup 27 = .ok (.getfield 14, 3) := by decide +kernel
theorem dX3_ofGroup_30 : decode cX3_ofGroup 30 = .ok (.getfield 48, 3) := by decide +kernel
theorem dX3_ofGroup_33 : decode cX3_ofGroup 33 = .ok (.iload_n 1, 1) := by decide +kernel
theorem dX3_ofGroup_34 : decode cX3_ofGroup 34 = .ok (.invokevirtual 41, 3) := by decide +kernel
theorem dX3_ofGroup_37 : decode cX3_ofGroup 37 = .ok (.istore 6, 2) := by decide +kernel
theorem dX3_ofGroup_39 : decode cX3_ofGroup 39 = .ok (.aload_n 0, 1) := by decide +kernel
theorem dX3_ofGroup_40 : decode cX3_ofGroup 40 = .ok (.getfield 14, 3) := by decide +kernel
theorem dX3_ofGroup_43 : decode cX3_ofGroup 43 = .ok (.getfield 51, 3) := by decide +kernel
theorem dX3_ofGroup_46 : decode cX3_ofGroup 46 = .ok (.iload_n 1, 1) := by decide +kernel
theorem dX3_ofGroup_47 : decode cX3_ofGroup 47 = .ok (.invokevirtual 41, 3) := by decide +kernel
theorem dX3_ofGroup_50 : decode cX3_ofGroup 50 = .ok (.istore 7, 2) := by decide +kernel
theorem dX3_ofGroup_52 : decode cX3_ofGroup 52 = .ok (.iload 5, 2) := by decide +kernel
theorem dX3_ofGroup_54 : decode cX3_ofGroup 54 = .ok (.iconst (-1), 1) := by decide +kernel
theorem dX3_ofGroup_55 : decode cX3_ofGroup 55 = .ok (.if_icmp .eq 24, 3) := by decide +kernel
theorem dX3_ofGroup_58 : decode cX3_ofGroup 58 = .ok (.iload 4, 2) := by decide +kernel
theorem dX3_ofGroup_60 : decode cX3_ofGroup 60 = .ok (.ifCond .eq 17, 3) := by decide +kernel
theorem dX3_ofGroup_63 : decode cX3_ofGroup 63 = .ok (.iload 5, 2) := by decide +kernel
theorem dX3_ofGroup_65 : decode cX3_ofGroup 65 = .ok (.bipush 70, 2) := by decide +kernel
theorem dX3_ofGroup_67 : decode cX3_ofGroup 67 = .ok (.if_icmp .eq 10, 3) := by decide +kernel
theorem dX3_ofGroup_70 : decode cX3_ofGroup 70 = .ok (.iload 5, 2) := by decide +kernel
theorem dX3_ofGroup_72 : decode cX3_ofGroup 72 = .ok (.iload 4, 2) := by decide +kernel
theorem dX3_ofGroup_74 : decode cX3_ofGroup 74 = .ok (.if_icmp .gt 5, 3) := by decide +kernel
theorem dX3_ofGroup_77 : decode cX3_ofGroup 77 = .ok (.iconst 1, 1) := by decide +kernel
theorem dX3_ofGroup_78 : decode cX3_ofGroup 78 = .ok (.ireturn, 1) := by decide +kernel
theorem dX3_ofGroup_79 : decode cX3_ofGroup 79 = .ok (.iload 4, 2) := by decide +kernel
theorem dX3_ofGroup_81 : decode cX3_ofGroup 81 = .ok (.bipush 70, 2) := by decide +kernel
theorem dX3_ofGroup_83 : decode cX3_ofGroup 83 = .ok (.if_icmp .ne 15, 3) := by decide +kernel
theorem dX3_ofGroup_86 : decode cX3_ofGroup 86 = .ok (.aload_n 3, 1) := by decide +kernel
theorem dX3_ofGroup_87 : decode cX3_ofGroup 87 = .ok (.bipush 70, 2) := by decide +kernel
theorem dX3_ofGroup_89 : decode cX3_ofGroup 89 = .ok (.invokevirtual 54, 3) := by decide +kernel
theorem dX3_ofGroup_92 : decode cX3_ofGroup 92 = .ok (.ifCond .le 17, 3) := by decide +kernel
theorem dX3_ofGroup_95 : decode cX3_ofGroup 95 = .ok (.goto 12, 3) := by decide +kernel
theorem dX3_ofGroup_98 : decode cX3_ofGroup 98 = .ok (.iload 4, 2) := by decide +kernel
theorem dX3_ofGroup_100 : decode cX3_ofGroup 100 = .ok (.aload_n 3, 1) := by decide +kernel
theorem dX3_ofGroup_101 : decode cX3_ofGroup 101 = .ok (.getfield 57, 3) := by decide +kernel
theorem dX3_ofGroup_104 : decode cX3_ofGroup 104 = .ok (.if_icmp .gt 5, 3) := by decide +kernel
theorem dX3_ofGroup_107 : decode cX3_ofGroup 107 = .ok (.iconst 2, 1) := by decide +kernel
theorem dX3_ofGroup_108 : decode cX3_ofGroup 108 = .ok (.ireturn, 1) := by decide +kernel
theorem dX3_ofGroup_109 : decode cX3_ofGroup 109 = .ok (.iload 6, 2) := by decide +kernel
theorem dX3_ofGroup_111 : decode cX3_ofGroup 111 = .ok (.invokestatic 60, 3) := by decide +kernel
theorem dX3_ofGroup_114 : decode cX3_ofGroup 114 = .ok (.ifCond .eq 11, 3) := by decide +kernel
theorem dX3_ofGroup_117 : decode cX3_ofGroup 117 = .ok (.iload 7, 2) := by decide +kernel
theorem dX3_ofGroup_119 : decode cX3_ofGroup 119 = .ok (.invokestatic 60, 3) := by decide +kernel
theorem dX3_ofGroup_122 : decode cX3_ofGroup 122 = .ok (.ifCond .ne 5, 3) := by decide +kernel
theorem dX3_ofGroup_125 : decode cX3_ofGroup 125 = .ok (.iconst 3, 1) := by decide +kernel
theorem dX3_ofGroup_126 : decode cX3_ofGroup 126 = .ok (.ireturn, 1) := by decide +kernel
theorem dX3_ofGroup_127 : decode cX3_ofGroup 127 = .ok (.iload 5, 2) := by decide +kernel
theorem dX3_ofGroup_129 : decode cX3_ofGroup 129 = .ok (.iconst (-1), 1) := by decide +kernel
theorem dX3_ofGroup_130 : decode cX3_ofGroup 130 = .ok (.if_icmp .ne 8, 3) := by decide +kernel
theorem dX3_ofGroup_133 : decode cX3_ofGroup 133 = .ok (.iload 4, 2) := by decide +kernel
theorem dX3_ofGroup_135 : decode cX3_ofGroup 135 = .ok (.goto 5, 3) := by decide +kernel
theorem dX3_ofGroup_138 : decode cX3_ofGroup 138 = .ok (.iload 5, 2) := by decide +kernel
theorem dX3_ofGroup_140 : decode cX3_ofGroup 140 = .ok (.istore 8, 2) := by decide +kernel
theorem dX3_ofGroup_142 : decode cX3_ofGroup 142 = .ok (.aload_n 3, 1) := by decide +kernel
theorem dX3_ofGroup_143 : decode cX3_ofGroup 143 = .ok (.iload 4, 2) := by decide +kernel
theorem dX3_ofGroup_145 : decode cX3_ofGroup 145 = .ok (.iload 8, 2) := by decide +kernel
theorem dX3_ofGroup_147 : decode cX3_ofGroup 147 = .ok (.iload 6, 2) := by decide +kernel
theorem dX3_ofGroup_149 : decode cX3_ofGroup 149 = .ok (.iload 7, 2) := by decide +kernel
theorem dX3_ofGroup_151 : decode cX3_ofGroup 151 = .ok (.invokevirtual 64, 3) := by decide +kernel
theorem dX3_ofGroup_154 : decode cX3_ofGroup 154 = .ok (.aload_n 0, 1) := by decide +kernel
theorem dX3_ofGroup_155 : decode cX3_ofGroup 155 = .ok (.getfield 14, 3) := by decide +kernel
theorem dX3_ofGroup_158 : decode cX3_ofGroup 158 = .ok (.getfield 38, 3) := by decide +kernel
theorem dX3_ofGroup_161 : decode cX3_ofGroup 161 = .ok (.iload_n 1, 1) := by decide +kernel
theorem dX3_ofGroup_162 : decode cX3_ofGroup 162 = .ok (.invokevirtual 41, 3) := by decide +kernel
theorem dX3_ofGroup_165 : decode cX3_ofGroup 165 = .ok (.istore 9, 2) := by decide +kernel
theorem dX3_ofGroup_167 : decode cX3_ofGroup 167 = .ok (.aload_n 0, 1) := by decide +kernel
theorem dX3_ofGroup_168 : decode cX3_ofGroup 168 = .ok (.getfield 68, 3) := by decide +kernel
theorem dX3_ofGroup_171 : decode cX3_ofGroup 171 = .ok (.iload_n 2, 1) := by decide +kernel
theorem dX3_ofGroup_172 : decode cX3_ofGroup 172 = .ok (.iload 9, 2) := by decide +kernel
theorem dX3_ofGroup_174 : decode cX3_ofGroup 174 = .ok (.iload 4, 2) := by decide +kernel
theorem dX3_ofGroup_176 : decode cX3_ofGroup 176 = .ok (.iload 8, 2) := by decide +kernel
theorem dX3_ofGroup_178 : decode cX3_ofGroup 178 = .ok (.invokestatic 72, 3) := by decide +kernel
theorem dX3_ofGroup_181 : decode cX3_ofGroup 181 = .ok (.ifCond .eq 17, 3) := by decide +kernel
theorem dX3_ofGroup_184 : decode cX3_ofGroup 184 = .ok (.aload_n 0, 1) := by decide +kernel
theorem dX3_ofGroup_185 : decode cX3_ofGroup 185 = .ok (.getfield 68, 3) := by decide +kernel
theorem dX3_ofGroup_188 : decode cX3_ofGroup 188 = .ok (.iload_n 2, 1) := by decide +kernel
theorem dX3_ofGroup_189 : decode cX3_ofGroup 189 = .ok (.iload 9, 2) := by decide +kernel
theorem dX3_ofGroup_191 : decode cX3_ofGroup 191 = .ok (.aload_n 3, 1) := by decide +kernel
theorem dX3_ofGroup_192 : decode cX3_ofGroup 192 = .ok (.invokestatic 76, 3) := by decide +kernel
theorem dX3_ofGroup_195 : decode cX3_ofGroup 195 = .ok (.goto 4, 3) := by decide +kernel
theorem dX3_ofGroup_198 : decode cX3_ofGroup 198 = .ok (.iconst 4, 1) := by decide +kernel
theorem dX3_ofGroup_199 : decode cX3_ofGroup 199 = .ok (.ireturn, 1) := by decide +kernel
def X3_ofGroup_140  (x0 : Option Nat) (x1 : Int32) (x2 : Int32) (x3 : Option Nat) (x4 : Int32) (x6 : Int32) (x7 : Int32) (y0 : Int32) : MM Int32 :=
  mb (wc 7 x3 fun t => X6_addGroup t x4 y0 x6 x7) fun _ =>
  mb (gR 8 x0 1) fun v1 =>
  mb (gR 5 v1 4) fun v2 =>
  mb (wc 9 v2 fun t => X8_get t x1) fun v3 =>
  mb (gR 8 x0 2) fun v4 =>
  mb (X3_ofSigns v4 x2 v3 x4 y0) fun v5 =>
  if v5 = 0 then (mr (4 : Int32)) else (mb (gR 8 x0 2) fun v6 =>
  mb (X3_ofChanges v6 x2 v3 x3) fun v7 =>
  mr v7)
def X3_ofGroup_109  (x0 : Option Nat) (x1 : Int32) (x2 : Int32) (x3 : Option Nat) (x4 : Int32) (x5 : Int32) (x6 : Int32) (x7 : Int32) : MM Int32 :=
  mb (X3_isSize x6) fun v1 =>
  if v1 = 0 then (mr (3 : Int32)) else (mb (X3_isSize x7) fun v2 =>
  if v2 = 0 then (mr (3 : Int32)) else (if x5 = (-1 : Int32) then ((X3_ofGroup_140 x0 x1 x2 x3 x4 x6 x7 x4)) else ((X3_ofGroup_140 x0 x1 x2 x3 x4 x6 x7 x5))))
def X3_ofGroup_79  (x0 : Option Nat) (x1 : Int32) (x2 : Int32) (x3 : Option Nat) (x4 : Int32) (x5 : Int32) (x6 : Int32) (x7 : Int32) : MM Int32 :=
  if x4 = (70 : Int32) then (mb (wc 7 x3 fun t => X6_sizeOf t (70 : Int32)) fun v1 =>
  if v1 ≤ 0 then ((X3_ofGroup_109 x0 x1 x2 x3 x4 x5 x6 x7)) else (mr (2 : Int32))) else (mb (gI 7 x3 5) fun v2 =>
  if v2 < x4 then ((X3_ofGroup_109 x0 x1 x2 x3 x4 x5 x6 x7)) else (mr (2 : Int32)))
def X3_ofGroup (a0 : Option Nat) (a1 : Int32) (a2 : Int32) (a3 : Option Nat) : MM Int32 :=
  mb (gR 8 a0 1) fun v1 =>
  mb (gR 5 v1 0) fun v2 =>
  mb (wc 9 v2 fun t => X8_get t a1) fun v3 =>
  mb (gR 8 a0 1) fun v4 =>
  mb (gR 5 v4 1) fun v5 =>
  mb (wc 9 v5 fun t => X8_get t a1) fun v6 =>
  mb (gR 8 a0 1) fun v7 =>
  mb (gR 5 v7 2) fun v8 =>
  mb (wc 9 v8 fun t => X8_get t a1) fun v9 =>
  mb (gR 8 a0 1) fun v10 =>
  mb (gR 5 v10 3) fun v11 =>
  mb (wc 9 v11 fun t => X8_get t a1) fun v12 =>
  if v6 = (-1 : Int32) then ((X3_ofGroup_79 a0 a1 a2 a3 v3 v6 v9 v12)) else (if v3 = 0 then (mr (1 : Int32)) else (if v6 = (70 : Int32) then (mr (1 : Int32)) else (if v3 < v6 then ((X3_ofGroup_79 a0 a1 a2 a3 v3 v6 v9 v12)) else (mr (1 : Int32)))))
set_option maxRecDepth 100000 in
set_option maxHeartbeats 4000000 in
theorem s_X3_ofGroup_140 (G : GG)   (x0 : Option Nat) (x1 : Int32) (x2 : Int32) (x3 : Option Nat) (x4 : Int32) (x6 : Int32) (x7 : Int32) (y0 : Int32) : Sn G yX3_ofGroup cX3_ofGroup 10 (some FieldType.int) 3 68 (fun v : Int32 => some (.int v)) (X3_ofGroup_140  x0 x1 x2 x3 x4 x6 x7 y0) 140 [some (va_rf x0), some (.int x1), some (.int x2), some (va_rf x3), some (.int x4), none, some (.int x6), some (.int x7), none, none] [.int y0] := by
  unfold X3_ofGroup_140
  refine sn_istore (v := y0) (L' := [some (va_rf x0), some (.int x1), some (.int x2), some (va_rf x3), some (.int x4), none, some (.int x6), some (.int x7), some (.int y0), none]) (pc' := 142) dX3_ofGroup_140 rfl rfl rfl ?_
  refine sn_aload_n (v := x3) (pc' := 143) dX3_ofGroup_142 rfl rfl rfl ?_
  refine sn_iload (v := x4) (pc' := 145) dX3_ofGroup_143 rfl rfl ?_
  refine sn_iload (v := y0) (pc' := 147) dX3_ofGroup_145 rfl rfl ?_
  refine sn_iload (v := x6) (pc' := 149) dX3_ofGroup_147 rfl rfl ?_
  refine sn_iload (v := x7) (pc' := 151) dX3_ofGroup_149 rfl rfl ?_
  refine sn_cV (r := x3) (st := []) (As := [.int x4, .int y0, .int x6, .int x7]) (st2 := (fun _ => [])) (pc' := 154) ci_7 (fun t => c_X6_addGroup G t x4 y0 x6 x7) cw_X6_addGroup rfl rfl tw544 tw546 tw545 rfl rfl cat_nil rfl (fun _ => rfl) dX3_ofGroup_151 rfl (fun _ => ?_)
  refine sn_aload_n (v := x0) (pc' := 155) dX3_ofGroup_154 rfl rfl rfl ?_
  refine sn_gR (k := 1) (pc' := 158) ci_8 rfl (Or.inr ⟨_, nw159⟩) dX3_ofGroup_155 rfl (fun v1 => ?_)
  refine sn_gR (k := 4) (pc' := 161) ci_5 rfl (Or.inr ⟨_, nw112⟩) dX3_ofGroup_158 rfl (fun v2 => ?_)
  refine sn_iload_n (v := x1) (pc' := 162) dX3_ofGroup_161 rfl rfl rfl ?_
  refine sn_cV (r := v2) (st := []) (As := [.int x1]) (st2 := (fun v => .int v :: [])) (pc' := 165) ci_9 (fun t => c_X8_get G t x1) cw_X8_get rfl rfl tw536 tw497 tw496 rfl rfl cat_nil rfl (fun _ => rfl) dX3_ofGroup_162 rfl (fun v3 => ?_)
  refine sn_istore (v := v3) (L' := [some (va_rf x0), some (.int x1), some (.int x2), some (va_rf x3), some (.int x4), none, some (.int x6), some (.int x7), some (.int y0), some (.int v3)]) (pc' := 167) dX3_ofGroup_165 rfl rfl rfl ?_
  refine sn_aload_n (v := x0) (pc' := 168) dX3_ofGroup_167 rfl rfl rfl ?_
  refine sn_gR (k := 2) (pc' := 171) ci_8 rfl (Or.inr ⟨_, nw161⟩) dX3_ofGroup_168 rfl (fun v4 => ?_)
  refine sn_iload_n (v := x2) (pc' := 172) dX3_ofGroup_171 rfl rfl rfl ?_
  refine sn_iload (v := v3) (pc' := 174) dX3_ofGroup_172 rfl rfl ?_
  refine sn_iload (v := x4) (pc' := 176) dX3_ofGroup_174 rfl rfl ?_
  refine sn_iload (v := y0) (pc' := 178) dX3_ofGroup_176 rfl rfl ?_
  refine sn_cS (st := []) (As := [va_rf v4, .int x2, .int v3, .int x4, .int y0]) (st2 := (fun v => .int v :: [])) (pc' := 181) (c_X3_ofSigns G v4 x2 v3 x4 y0) cw_X3_ofSigns rfl rfl tw552 tw553 rfl rfl cat_nil rfl (fun _ => rfl) dX3_ofGroup_178 rfl (fun v5 => ?_)
  refine sn_if_eq (pt := 198) (pf := 184) dX3_ofGroup_181 rfl rfl ?_ ?_
  · refine sn_iconst (v := (4 : Int32)) (pc' := 199) dX3_ofGroup_198 rfl (by decide) ?_
    exact sn_iret dX3_ofGroup_199 rfl rfl
  · refine sn_aload_n (v := x0) (pc' := 185) dX3_ofGroup_184 rfl rfl rfl ?_
    refine sn_gR (k := 2) (pc' := 188) ci_8 rfl (Or.inr ⟨_, nw161⟩) dX3_ofGroup_185 rfl (fun v6 => ?_)
    refine sn_iload_n (v := x2) (pc' := 189) dX3_ofGroup_188 rfl rfl rfl ?_
    refine sn_iload (v := v3) (pc' := 191) dX3_ofGroup_189 rfl rfl ?_
    refine sn_aload_n (v := x3) (pc' := 192) dX3_ofGroup_191 rfl rfl rfl ?_
    refine sn_cS (st := []) (As := [va_rf v6, .int x2, .int v3, va_rf x3]) (st2 := (fun v => .int v :: [])) (pc' := 195) (c_X3_ofChanges G v6 x2 v3 x3) cw_X3_ofChanges rfl rfl tw555 tw556 rfl rfl cat_nil rfl (fun _ => rfl) dX3_ofGroup_192 rfl (fun v7 => ?_)
    refine sn_goto (pc' := 199) dX3_ofGroup_195 rfl ?_
    exact sn_iret dX3_ofGroup_199 rfl rfl
set_option maxRecDepth 100000 in
set_option maxHeartbeats 4000000 in
theorem s_X3_ofGroup_109 (G : GG)   (x0 : Option Nat) (x1 : Int32) (x2 : Int32) (x3 : Option Nat) (x4 : Int32) (x5 : Int32) (x6 : Int32) (x7 : Int32) : Sn G yX3_ofGroup cX3_ofGroup 10 (some FieldType.int) 3 68 (fun v : Int32 => some (.int v)) (X3_ofGroup_109  x0 x1 x2 x3 x4 x5 x6 x7) 109 [some (va_rf x0), some (.int x1), some (.int x2), some (va_rf x3), some (.int x4), some (.int x5), some (.int x6), some (.int x7), none, none] [] := by
  unfold X3_ofGroup_109
  refine sn_iload (v := x6) (pc' := 111) dX3_ofGroup_109 rfl rfl ?_
  refine sn_cS (st := []) (As := [.int x6]) (st2 := (fun v => .int v :: [])) (pc' := 114) (c_X3_isSize G x6) cw_X3_isSize rfl rfl tw541 tw542 rfl rfl cat_nil rfl (fun _ => rfl) dX3_ofGroup_111 rfl (fun v1 => ?_)
  refine sn_if_eq (pt := 125) (pf := 117) dX3_ofGroup_114 rfl rfl ?_ ?_
  · refine sn_iconst (v := (3 : Int32)) (pc' := 126) dX3_ofGroup_125 rfl (by decide) ?_
    exact sn_iret dX3_ofGroup_126 rfl rfl
  · refine sn_iload (v := x7) (pc' := 119) dX3_ofGroup_117 rfl rfl ?_
    refine sn_cS (st := []) (As := [.int x7]) (st2 := (fun v => .int v :: [])) (pc' := 122) (c_X3_isSize G x7) cw_X3_isSize rfl rfl tw541 tw542 rfl rfl cat_nil rfl (fun _ => rfl) dX3_ofGroup_119 rfl (fun v2 => ?_)
    refine sn_if_ne (pt := 127) (pf := 125) dX3_ofGroup_122 rfl rfl ?_ ?_
    · refine sn_iconst (v := (3 : Int32)) (pc' := 126) dX3_ofGroup_125 rfl (by decide) ?_
      exact sn_iret dX3_ofGroup_126 rfl rfl
    · refine sn_iload (v := x5) (pc' := 129) dX3_ofGroup_127 rfl rfl ?_
      refine sn_iconst (v := (-1 : Int32)) (pc' := 130) dX3_ofGroup_129 rfl (by decide) ?_
      refine sn_ic_ne (pt := 138) (pf := 133) dX3_ofGroup_130 rfl rfl ?_ ?_
      · refine sn_iload (v := x4) (pc' := 135) dX3_ofGroup_133 rfl rfl ?_
        refine sn_goto (pc' := 140) dX3_ofGroup_135 rfl ?_
        exact sn_weak (le_s (le_s (le_s (le_s (le_s (le_n (le_s (le_s (le_n (le_n le_e)))))))))) (s_X3_ofGroup_140 G x0 x1 x2 x3 x4 x6 x7 x4)
      · refine sn_iload (v := x5) (pc' := 140) dX3_ofGroup_138 rfl rfl ?_
        exact sn_weak (le_s (le_s (le_s (le_s (le_s (le_n (le_s (le_s (le_n (le_n le_e)))))))))) (s_X3_ofGroup_140 G x0 x1 x2 x3 x4 x6 x7 x5)
set_option maxRecDepth 100000 in
set_option maxHeartbeats 4000000 in
theorem s_X3_ofGroup_79 (G : GG)   (x0 : Option Nat) (x1 : Int32) (x2 : Int32) (x3 : Option Nat) (x4 : Int32) (x5 : Int32) (x6 : Int32) (x7 : Int32) : Sn G yX3_ofGroup cX3_ofGroup 10 (some FieldType.int) 3 68 (fun v : Int32 => some (.int v)) (X3_ofGroup_79  x0 x1 x2 x3 x4 x5 x6 x7) 79 [some (va_rf x0), some (.int x1), some (.int x2), some (va_rf x3), some (.int x4), some (.int x5), some (.int x6), some (.int x7), none, none] [] := by
  unfold X3_ofGroup_79
  refine sn_iload (v := x4) (pc' := 81) dX3_ofGroup_79 rfl rfl ?_
  refine sn_bipush (v := (70 : Int32)) (pc' := 83) dX3_ofGroup_81 rfl (by decide) ?_
  refine sn_ic_ne (pt := 98) (pf := 86) dX3_ofGroup_83 rfl rfl ?_ ?_
  · refine sn_aload_n (v := x3) (pc' := 87) dX3_ofGroup_86 rfl rfl rfl ?_
    refine sn_bipush (v := (70 : Int32)) (pc' := 89) dX3_ofGroup_87 rfl (by decide) ?_
    refine sn_cV (r := x3) (st := []) (As := [.int (70 : Int32)]) (st2 := (fun v => .int v :: [])) (pc' := 92) ci_7 (fun t => c_X6_sizeOf G t (70 : Int32)) cw_X6_sizeOf rfl rfl tw537 tw539 tw538 rfl rfl cat_nil rfl (fun _ => rfl) dX3_ofGroup_89 rfl (fun v1 => ?_)
    refine sn_if_le (pt := 109) (pf := 95) dX3_ofGroup_92 rfl rfl ?_ ?_
    · exact sn_weak (le_s (le_s (le_s (le_s (le_s (le_s (le_s (le_s (le_n (le_n le_e)))))))))) (s_X3_ofGroup_109 G x0 x1 x2 x3 x4 x5 x6 x7)
    · refine sn_goto (pc' := 107) dX3_ofGroup_95 rfl ?_
      refine sn_iconst (v := (2 : Int32)) (pc' := 108) dX3_ofGroup_107 rfl (by decide) ?_
      exact sn_iret dX3_ofGroup_108 rfl rfl
  · refine sn_iload (v := x4) (pc' := 100) dX3_ofGroup_98 rfl rfl ?_
    refine sn_aload_n (v := x3) (pc' := 101) dX3_ofGroup_100 rfl rfl rfl ?_
    refine sn_gI (k := 5) (pc' := 104) ci_7 rfl (Or.inr ⟨_, nw195⟩) dX3_ofGroup_101 rfl (fun v2 => ?_)
    refine sn_ic_gt (pt := 109) (pf := 107) dX3_ofGroup_104 rfl rfl ?_ ?_
    · exact sn_weak (le_s (le_s (le_s (le_s (le_s (le_s (le_s (le_s (le_n (le_n le_e)))))))))) (s_X3_ofGroup_109 G x0 x1 x2 x3 x4 x5 x6 x7)
    · refine sn_iconst (v := (2 : Int32)) (pc' := 108) dX3_ofGroup_107 rfl (by decide) ?_
      exact sn_iret dX3_ofGroup_108 rfl rfl
set_option maxRecDepth 100000 in
set_option maxHeartbeats 4000000 in
theorem s_X3_ofGroup (G : GG) (a0 : Option Nat) (a1 : Int32) (a2 : Int32) (a3 : Option Nat) : Sn G yX3_ofGroup cX3_ofGroup 10 (some FieldType.int) 3 68 (fun v : Int32 => some (.int v)) (X3_ofGroup a0 a1 a2 a3) 0 [some (va_rf a0), some (.int a1), some (.int a2), some (va_rf a3), none, none, none, none, none, none] [] := by
  unfold X3_ofGroup
  refine sn_aload_n (v := a0) (pc' := 1) dX3_ofGroup_0 rfl rfl rfl ?_
  refine sn_gR (k := 1) (pc' := 4) ci_8 rfl (Or.inr ⟨_, nw159⟩) dX3_ofGroup_1 rfl (fun v1 => ?_)
  refine sn_gR (k := 0) (pc' := 7) ci_5 rfl (Or.inr ⟨_, nw100⟩) dX3_ofGroup_4 rfl (fun v2 => ?_)
  refine sn_iload_n (v := a1) (pc' := 8) dX3_ofGroup_7 rfl rfl rfl ?_
  refine sn_cV (r := v2) (st := []) (As := [.int a1]) (st2 := (fun v => .int v :: [])) (pc' := 11) ci_9 (fun t => c_X8_get G t a1) cw_X8_get rfl rfl tw536 tw497 tw496 rfl rfl cat_nil rfl (fun _ => rfl) dX3_ofGroup_8 rfl (fun v3 => ?_)
  refine sn_istore (v := v3) (L' := [some (va_rf a0), some (.int a1), some (.int a2), some (va_rf a3), some (.int v3), none, none, none, none, none]) (pc' := 13) dX3_ofGroup_11 rfl rfl rfl ?_
  refine sn_aload_n (v := a0) (pc' := 14) dX3_ofGroup_13 rfl rfl rfl ?_
  refine sn_gR (k := 1) (pc' := 17) ci_8 rfl (Or.inr ⟨_, nw159⟩) dX3_ofGroup_14 rfl (fun v4 => ?_)
  refine sn_gR (k := 1) (pc' := 20) ci_5 rfl (Or.inr ⟨_, nw103⟩) dX3_ofGroup_17 rfl (fun v5 => ?_)
  refine sn_iload_n (v := a1) (pc' := 21) dX3_ofGroup_20 rfl rfl rfl ?_
  refine sn_cV (r := v5) (st := []) (As := [.int a1]) (st2 := (fun v => .int v :: [])) (pc' := 24) ci_9 (fun t => c_X8_get G t a1) cw_X8_get rfl rfl tw536 tw497 tw496 rfl rfl cat_nil rfl (fun _ => rfl) dX3_ofGroup_21 rfl (fun v6 => ?_)
  refine sn_istore (v := v6) (L' := [some (va_rf a0), some (.int a1), some (.int a2), some (va_rf a3), some (.int v3), some (.int v6), none, none, none, none]) (pc' := 26) dX3_ofGroup_24 rfl rfl rfl ?_
  refine sn_aload_n (v := a0) (pc' := 27) dX3_ofGroup_26 rfl rfl rfl ?_
  refine sn_gR (k := 1) (pc' := 30) ci_8 rfl (Or.inr ⟨_, nw159⟩) dX3_ofGroup_27 rfl (fun v7 => ?_)
  refine sn_gR (k := 2) (pc' := 33) ci_5 rfl (Or.inr ⟨_, nw106⟩) dX3_ofGroup_30 rfl (fun v8 => ?_)
  refine sn_iload_n (v := a1) (pc' := 34) dX3_ofGroup_33 rfl rfl rfl ?_
  refine sn_cV (r := v8) (st := []) (As := [.int a1]) (st2 := (fun v => .int v :: [])) (pc' := 37) ci_9 (fun t => c_X8_get G t a1) cw_X8_get rfl rfl tw536 tw497 tw496 rfl rfl cat_nil rfl (fun _ => rfl) dX3_ofGroup_34 rfl (fun v9 => ?_)
  refine sn_istore (v := v9) (L' := [some (va_rf a0), some (.int a1), some (.int a2), some (va_rf a3), some (.int v3), some (.int v6), some (.int v9), none, none, none]) (pc' := 39) dX3_ofGroup_37 rfl rfl rfl ?_
  refine sn_aload_n (v := a0) (pc' := 40) dX3_ofGroup_39 rfl rfl rfl ?_
  refine sn_gR (k := 1) (pc' := 43) ci_8 rfl (Or.inr ⟨_, nw159⟩) dX3_ofGroup_40 rfl (fun v10 => ?_)
  refine sn_gR (k := 3) (pc' := 46) ci_5 rfl (Or.inr ⟨_, nw109⟩) dX3_ofGroup_43 rfl (fun v11 => ?_)
  refine sn_iload_n (v := a1) (pc' := 47) dX3_ofGroup_46 rfl rfl rfl ?_
  refine sn_cV (r := v11) (st := []) (As := [.int a1]) (st2 := (fun v => .int v :: [])) (pc' := 50) ci_9 (fun t => c_X8_get G t a1) cw_X8_get rfl rfl tw536 tw497 tw496 rfl rfl cat_nil rfl (fun _ => rfl) dX3_ofGroup_47 rfl (fun v12 => ?_)
  refine sn_istore (v := v12) (L' := [some (va_rf a0), some (.int a1), some (.int a2), some (va_rf a3), some (.int v3), some (.int v6), some (.int v9), some (.int v12), none, none]) (pc' := 52) dX3_ofGroup_50 rfl rfl rfl ?_
  refine sn_iload (v := v6) (pc' := 54) dX3_ofGroup_52 rfl rfl ?_
  refine sn_iconst (v := (-1 : Int32)) (pc' := 55) dX3_ofGroup_54 rfl (by decide) ?_
  refine sn_ic_eq (pt := 79) (pf := 58) dX3_ofGroup_55 rfl rfl ?_ ?_
  · exact sn_weak (le_s (le_s (le_s (le_s (le_s (le_s (le_s (le_s (le_n (le_n le_e)))))))))) (s_X3_ofGroup_79 G a0 a1 a2 a3 v3 v6 v9 v12)
  · refine sn_iload (v := v3) (pc' := 60) dX3_ofGroup_58 rfl rfl ?_
    refine sn_if_eq (pt := 77) (pf := 63) dX3_ofGroup_60 rfl rfl ?_ ?_
    · refine sn_iconst (v := (1 : Int32)) (pc' := 78) dX3_ofGroup_77 rfl (by decide) ?_
      exact sn_iret dX3_ofGroup_78 rfl rfl
    · refine sn_iload (v := v6) (pc' := 65) dX3_ofGroup_63 rfl rfl ?_
      refine sn_bipush (v := (70 : Int32)) (pc' := 67) dX3_ofGroup_65 rfl (by decide) ?_
      refine sn_ic_eq (pt := 77) (pf := 70) dX3_ofGroup_67 rfl rfl ?_ ?_
      · refine sn_iconst (v := (1 : Int32)) (pc' := 78) dX3_ofGroup_77 rfl (by decide) ?_
        exact sn_iret dX3_ofGroup_78 rfl rfl
      · refine sn_iload (v := v6) (pc' := 72) dX3_ofGroup_70 rfl rfl ?_
        refine sn_iload (v := v3) (pc' := 74) dX3_ofGroup_72 rfl rfl ?_
        refine sn_ic_gt (pt := 79) (pf := 77) dX3_ofGroup_74 rfl rfl ?_ ?_
        · exact sn_weak (le_s (le_s (le_s (le_s (le_s (le_s (le_s (le_s (le_n (le_n le_e)))))))))) (s_X3_ofGroup_79 G a0 a1 a2 a3 v3 v6 v9 v12)
        · refine sn_iconst (v := (1 : Int32)) (pc' := 78) dX3_ofGroup_77 rfl (by decide) ?_
          exact sn_iret dX3_ofGroup_78 rfl rfl
theorem c_X3_ofGroup (G : GG) (a0 : Option Nat) (a1 : Int32) (a2 : Int32) (a3 : Option Nat) : Cal G yX3_ofGroup cX3_ofGroup 10 (some FieldType.int) 3 68 (fun v : Int32 => some (.int v)) (X3_ofGroup a0 a1 a2 a3) [va_rf a0, .int a1, .int a2, va_rf a3] :=
  Cal.of (by decide) (cat_q (cat_i (cat_i (cat_q cat_nil)))) rfl (sn_weak (le_s (le_s (le_s (le_s (le_z (le_z (le_z (le_z (le_z (le_z le_e)))))))))) (s_X3_ofGroup G a0 a1 a2 a3))
theorem cw_X3_ofGroup : CW yX3_ofGroup cX3_ofGroup 10 (some FieldType.int) 4 := ⟨tw535, tw19, by decide, by decide +kernel⟩
/-! X3_ofFormula -/
theorem dX3_ofFormula_0 : decode cX3_ofFormula 0 = .ok (.aload_n 1, 1) := by decide +kernel
theorem dX3_ofFormula_1 : decode cX3_ofFormula 1 = .ok (.invokevirtual 9, 3) := by decide +kernel
theorem dX3_ofFormula_4 : decode cX3_ofFormula 4 = .ok (.iconst 0, 1) := by decide +kernel
theorem dX3_ofFormula_5 : decode cX3_ofFormula 5 = .ok (.istore_n 2, 1) := by decide +kernel
theorem dX3_ofFormula_6 : decode cX3_ofFormula 6 = .ok (.iconst 0, 1) := by decide +kernel
theorem dX3_ofFormula_7 : decode cX3_ofFormula 7 = .ok (.istore_n 3, 1) := by decide +kernel
theorem dX3_ofFormula_8 : decode cX3_ofFormula 8 = .ok (.iload_n 3, 1) := by decide +kernel
theorem dX3_ofFormula_9 : decode cX3_ofFormula 9 = .ok (.aload_n 0, 1) := by decide +kernel
theorem dX3_ofFormula_10 : decode cX3_ofFormula 10 = .ok (.getfield 14, 3) := by decide +kernel
theorem dX3_ofFormula_13 : decode cX3_ofFormula 13 = .ok (.getfield 20, 3) := by decide +kernel
theorem dX3_ofFormula_16 : decode cX3_ofFormula 16 = .ok (.getfield 26, 3) := by decide +kernel
theorem dX3_ofFormula_19 : decode cX3_ofFormula 19 = .ok (.if_icmp .ge 38, 3) := by decide +kernel
theorem dX3_ofFormula_22 : decode cX3_ofFormula 22 = .ok (.aload_n 0, 1) := by decide +kernel
theorem dX3_ofFormula_23 : decode cX3_ofFormula 23 = .ok (.iload_n 3, 1) := by decide +kernel
theorem dX3_ofFormula_24 : decode cX3_ofFormula 24 = .ok (.iload_n 2, 1) := by decide +kernel
theorem dX3_ofFormula_25 : decode cX3_ofFormula 25 = .ok (.aload_n 1, 1) := by decide +kernel
theorem dX3_ofFormula_26 : decode cX3_ofFormula 26 = .ok (.invokestatic 32, 3) := by decide +kernel
theorem dX3_ofFormula_29 : decode cX3_ofFormula 29 = .ok (.istore 4, 2) := by decide +kernel
theorem dX3_ofFormula_31 : decode cX3_ofFormula 31 = .ok (.iload 4, 2) := by decide +kernel
theorem dX3_ofFormula_33 : decode cX3_ofFormula 33 = .ok (.ifCond .eq 6, 3) := by decide +kernel
theorem dX3_ofFormula_36 : decode cX3_ofFormula 36 = .ok (.iload 4, 2) := by decide +kernel
theorem dX3_ofFormula_38 : decode cX3_ofFormula 38 = .ok (.ireturn, 1) := by decide +kernel
theorem dX3_ofFormula_39 : decode cX3_ofFormula 39 = .ok (.aload_n 0, 1) := by decide +kernel
theorem dX3_ofFormula_40 : decode cX3_ofFormula 40 = .ok (.getfield 14, 3) := by decide +kernel
theorem dX3_ofFormula_43 : decode cX3_ofFormula 43 = .ok (.getfield 38, 3) := by decide +kernel
theorem dX3_ofFormula_46 : decode cX3_ofFormula 46 = .ok (.iload_n 3, 1) := by decide +kernel
theorem dX3_ofFormula_47 : decode cX3_ofFormula 47 = .ok (.invokevirtual 41, 3) := by decide +kernel
theorem dX3_ofFormula_50 : decode cX3_ofFormula 50 = .ok (.istore_n 2, 1) := by decide +kernel
theorem dX3_ofFormula_51 : decode cX3_ofFormula 51 = .ok (.iinc 3 1, 3) := by decide +kernel
theorem dX3_ofFormula_54 : decode cX3_ofFormula 54 = .ok (.goto (-46), 3) := by decide +kernel
theorem dX3_ofFormula_57 : decode cX3_ofFormula 57 = .ok (.iconst 0, 1) := by decide +kernel
theorem dX3_ofFormula_58 : decode cX3_ofFormula 58 = .ok (.ireturn, 1) := by decide +kernel
def X3_ofFormula_8_st  (k8 : Option Nat → Option Nat → Int32 → Int32 → MM Int32) (x0 : Option Nat) (x1 : Option Nat) (x2 : Int32) (x3 : Int32) : MM Int32 :=
  mb (gR 8 x0 1) fun v1 =>
  mb (gR 5 v1 0) fun v2 =>
  mb (gI 9 v2 1) fun v3 =>
  if v3 ≤ x3 then (mr (0 : Int32)) else (mb (X3_ofGroup x0 x3 x2 x1) fun v4 =>
  if v4 = 0 then (mb (gR 8 x0 1) fun v5 =>
  mb (gR 5 v5 4) fun v6 =>
  mb (wc 9 v6 fun t => X8_get t x3) fun v7 =>
  (k8 x0 x1 v7 (x3 + (1 : Int32)))) else (mr v4))
def X3_ofFormula_8  : Nat → Option Nat → Option Nat → Int32 → Int32 → MM Int32
  | 0 => fun _ _ _ _ => mf
  | n + 1 => fun x0 x1 x2 x3 => X3_ofFormula_8_st  (X3_ofFormula_8  n) x0 x1 x2 x3
def X3_ofFormula (a0 : Option Nat) (a1 : Option Nat) : MM Int32 :=
  mb (wc 7 a1 fun t => X6_clear t ) fun _ =>
  (X3_ofFormula_8 LFU a0 a1 (0 : Int32) (0 : Int32))
set_option maxRecDepth 100000 in
set_option maxHeartbeats 4000000 in
theorem s_X3_ofFormula_8_st (G : GG)   (k8 : Option Nat → Option Nat → Int32 → Int32 → MM Int32) (hk8 : ∀ (x0 : Option Nat) (x1 : Option Nat) (x2 : Int32) (x3 : Int32), Sn G yX3_ofFormula cX3_ofFormula 5 (some FieldType.int) 4 97 (fun v : Int32 => some (.int v)) (k8 x0 x1 x2 x3) 8 [some (va_rf x0), some (va_rf x1), some (.int x2), some (.int x3), none] []) (x0 : Option Nat) (x1 : Option Nat) (x2 : Int32) (x3 : Int32) : Sn G yX3_ofFormula cX3_ofFormula 5 (some FieldType.int) 4 97 (fun v : Int32 => some (.int v)) (X3_ofFormula_8_st  k8 x0 x1 x2 x3) 8 [some (va_rf x0), some (va_rf x1), some (.int x2), some (.int x3), none] [] := by
  unfold X3_ofFormula_8_st
  refine sn_iload_n (v := x3) (pc' := 9) dX3_ofFormula_8 rfl rfl rfl ?_
  refine sn_aload_n (v := x0) (pc' := 10) dX3_ofFormula_9 rfl rfl rfl ?_
  refine sn_gR (k := 1) (pc' := 13) ci_8 rfl (Or.inr ⟨_, nw159⟩) dX3_ofFormula_10 rfl (fun v1 => ?_)
  refine sn_gR (k := 0) (pc' := 16) ci_5 rfl (Or.inr ⟨_, nw100⟩) dX3_ofFormula_13 rfl (fun v2 => ?_)
  refine sn_gI (k := 1) (pc' := 19) ci_9 rfl (Or.inr ⟨_, nw52⟩) dX3_ofFormula_16 rfl (fun v3 => ?_)
  refine sn_ic_ge (pt := 57) (pf := 22) dX3_ofFormula_19 rfl rfl ?_ ?_
  · refine sn_iconst (v := (0 : Int32)) (pc' := 58) dX3_ofFormula_57 rfl (by decide) ?_
    exact sn_iret dX3_ofFormula_58 rfl rfl
  · refine sn_aload_n (v := x0) (pc' := 23) dX3_ofFormula_22 rfl rfl rfl ?_
    refine sn_iload_n (v := x3) (pc' := 24) dX3_ofFormula_23 rfl rfl rfl ?_
    refine sn_iload_n (v := x2) (pc' := 25) dX3_ofFormula_24 rfl rfl rfl ?_
    refine sn_aload_n (v := x1) (pc' := 26) dX3_ofFormula_25 rfl rfl rfl ?_
    refine sn_cS (st := []) (As := [va_rf x0, .int x3, .int x2, va_rf x1]) (st2 := (fun v => .int v :: [])) (pc' := 29) (c_X3_ofGroup G x0 x3 x2 x1) cw_X3_ofGroup rfl rfl tw533 tw534 rfl rfl cat_nil rfl (fun _ => rfl) dX3_ofFormula_26 rfl (fun v4 => ?_)
    refine sn_istore (v := v4) (L' := [some (va_rf x0), some (va_rf x1), some (.int x2), some (.int x3), some (.int v4)]) (pc' := 31) dX3_ofFormula_29 rfl rfl rfl ?_
    refine sn_iload (v := v4) (pc' := 33) dX3_ofFormula_31 rfl rfl ?_
    refine sn_if_eq (pt := 39) (pf := 36) dX3_ofFormula_33 rfl rfl ?_ ?_
    · refine sn_aload_n (v := x0) (pc' := 40) dX3_ofFormula_39 rfl rfl rfl ?_
      refine sn_gR (k := 1) (pc' := 43) ci_8 rfl (Or.inr ⟨_, nw159⟩) dX3_ofFormula_40 rfl (fun v5 => ?_)
      refine sn_gR (k := 4) (pc' := 46) ci_5 rfl (Or.inr ⟨_, nw112⟩) dX3_ofFormula_43 rfl (fun v6 => ?_)
      refine sn_iload_n (v := x3) (pc' := 47) dX3_ofFormula_46 rfl rfl rfl ?_
      refine sn_cV (r := v6) (st := []) (As := [.int x3]) (st2 := (fun v => .int v :: [])) (pc' := 50) ci_9 (fun t => c_X8_get G t x3) cw_X8_get rfl rfl tw536 tw497 tw496 rfl rfl cat_nil rfl (fun _ => rfl) dX3_ofFormula_47 rfl (fun v7 => ?_)
      refine sn_istore_n (v := v7) (L' := [some (va_rf x0), some (va_rf x1), some (.int v7), some (.int x3), some (.int v4)]) (pc' := 51) dX3_ofFormula_50 rfl rfl rfl rfl ?_
      refine sn_iinc (v := x3) (w := 1) (L' := [some (va_rf x0), some (va_rf x1), some (.int v7), some (.int (x3 + (1 : Int32))), some (.int v4)]) (pc' := 54) dX3_ofFormula_51 rfl rfl rfl (by decide) rfl ?_
      refine sn_goto (pc' := 8) dX3_ofFormula_54 rfl ?_
      exact sn_weak (le_s (le_s (le_s (le_s (le_n le_e))))) (hk8 x0 x1 v7 (x3 + (1 : Int32)))
    · refine sn_iload (v := v4) (pc' := 38) dX3_ofFormula_36 rfl rfl ?_
      exact sn_iret dX3_ofFormula_38 rfl rfl
set_option maxRecDepth 100000 in
set_option maxHeartbeats 4000000 in
theorem s_X3_ofFormula_8 (G : GG)   : ∀ (n : Nat) (x0 : Option Nat) (x1 : Option Nat) (x2 : Int32) (x3 : Int32), Sn G yX3_ofFormula cX3_ofFormula 5 (some FieldType.int) 4 97 (fun v : Int32 => some (.int v)) (X3_ofFormula_8  n x0 x1 x2 x3) 8 [some (va_rf x0), some (va_rf x1), some (.int x2), some (.int x3), none] [] := by
  intro n
  induction n with
  | zero => intro x0 x1 x2 x3; exact sn_mf
  | succ n ih => intro x0 x1 x2 x3; exact s_X3_ofFormula_8_st G   (X3_ofFormula_8  n) ih x0 x1 x2 x3
set_option maxRecDepth 100000 in
set_option maxHeartbeats 4000000 in
theorem s_X3_ofFormula (G : GG) (a0 : Option Nat) (a1 : Option Nat) : Sn G yX3_ofFormula cX3_ofFormula 5 (some FieldType.int) 4 97 (fun v : Int32 => some (.int v)) (X3_ofFormula a0 a1) 0 [some (va_rf a0), some (va_rf a1), none, none, none] [] := by
  unfold X3_ofFormula
  refine sn_aload_n (v := a1) (pc' := 1) dX3_ofFormula_0 rfl rfl rfl ?_
  refine sn_cV (r := a1) (st := []) (As := []) (st2 := (fun _ => [])) (pc' := 4) ci_7 (fun t => c_X6_clear G t ) cw_X6_clear rfl rfl tw523 tw525 tw524 rfl rfl cat_nil rfl (fun _ => rfl) dX3_ofFormula_1 rfl (fun _ => ?_)
  refine sn_iconst (v := (0 : Int32)) (pc' := 5) dX3_ofFormula_4 rfl (by decide) ?_
  refine sn_istore_n (v := (0 : Int32)) (L' := [some (va_rf a0), some (va_rf a1), some (.int (0 : Int32)), none, none]) (pc' := 6) dX3_ofFormula_5 rfl rfl rfl rfl ?_
  refine sn_iconst (v := (0 : Int32)) (pc' := 7) dX3_ofFormula_6 rfl (by decide) ?_
  refine sn_istore_n (v := (0 : Int32)) (L' := [some (va_rf a0), some (va_rf a1), some (.int (0 : Int32)), some (.int (0 : Int32)), none]) (pc' := 8) dX3_ofFormula_7 rfl rfl rfl rfl ?_
  exact sn_weak (le_s (le_s (le_s (le_s (le_n le_e))))) (s_X3_ofFormula_8 G LFU a0 a1 (0 : Int32) (0 : Int32))
theorem c_X3_ofFormula (G : GG) (a0 : Option Nat) (a1 : Option Nat) : Cal G yX3_ofFormula cX3_ofFormula 5 (some FieldType.int) 4 97 (fun v : Int32 => some (.int v)) (X3_ofFormula a0 a1) [va_rf a0, va_rf a1] :=
  Cal.of (by decide) (cat_q (cat_q cat_nil)) rfl (sn_weak (le_s (le_s (le_z (le_z (le_z le_e))))) (s_X3_ofFormula G a0 a1))
theorem cw_X3_ofFormula : CW yX3_ofFormula cX3_ofFormula 5 (some FieldType.int) 2 := ⟨tw522, tw19, by decide, by decide +kernel⟩
/-! X6_insertedAt -/
theorem dX6_insertedAt_0 : decode cX6_insertedAt 0 = .ok (.iload_n 1, 1) := by decide +kernel
theorem dX6_insertedAt_1 : decode cX6_insertedAt 1 = .ok (.ifCond .lt 12, 3) := by decide +kernel
theorem dX6_insertedAt_4 : decode cX6_insertedAt 4 = .ok (.iload_n 1, 1) := by decide +kernel
theorem dX6_insertedAt_5 : decode cX6_insertedAt 5 = .ok (.aload_n 0, 1) := by decide +kernel
theorem dX6_insertedAt_6 : decode cX6_insertedAt 6 = .ok (.getfield 22, 3) := by decide +kernel
theorem dX6_insertedAt_9 : decode cX6_insertedAt 9 = .ok (.arraylength, 1) := by decide +kernel
theorem dX6_insertedAt_10 : decode cX6_insertedAt 10 = .ok (.if_icmp .lt 7, 3) := by decide +kernel
theorem dX6_insertedAt_13 : decode cX6_insertedAt 13 = .ok (.iconst 0, 1) := by decide +kernel
theorem dX6_insertedAt_14 : decode cX6_insertedAt 14 = .ok (.goto 9, 3) := by decide +kernel
theorem dX6_insertedAt_17 : decode cX6_insertedAt 17 = .ok (.aload_n 0, 1) := by decide +kernel
theorem dX6_insertedAt_18 : decode cX6_insertedAt 18 = .ok (.getfield 22, 3) := by decide +kernel
theorem dX6_insertedAt_21 : decode cX6_insertedAt 21 = .ok (.iload_n 1, 1) := by decide +kernel
theorem dX6_insertedAt_22 : decode cX6_insertedAt 22 = .ok (.baload, 1) := by decide +kernel
theorem dX6_insertedAt_23 : decode cX6_insertedAt 23 = .ok (.ireturn, 1) := by decide +kernel
def X6_insertedAt (this : Nat) (a1 : Int32) : MM Int32 :=
  if a1 < 0 then (mr (0 : Int32)) else (mb (gR 7 (some this) 3) fun v1 =>
  mb (aN v1) fun v2 =>
  if a1 < v2 then (mb (gR 7 (some this) 3) fun v3 =>
  mb (aB v3 a1) fun v4 =>
  mr v4) else (mr (0 : Int32)))
set_option maxRecDepth 100000 in
set_option maxHeartbeats 4000000 in
theorem s_X6_insertedAt (G : GG) (this : Nat) (a1 : Int32) : Sn G yX6_insertedAt cX6_insertedAt 2 (some FieldType.int) 0 0 (fun v : Int32 => some (.int v)) (X6_insertedAt this a1) 0 [some (va_rf (some this)), some (.int a1)] [] := by
  unfold X6_insertedAt
  refine sn_iload_n (v := a1) (pc' := 1) dX6_insertedAt_0 rfl rfl rfl ?_
  refine sn_if_lt (pt := 13) (pf := 4) dX6_insertedAt_1 rfl rfl ?_ ?_
  · refine sn_iconst (v := (0 : Int32)) (pc' := 14) dX6_insertedAt_13 rfl (by decide) ?_
    refine sn_goto (pc' := 23) dX6_insertedAt_14 rfl ?_
    exact sn_iret dX6_insertedAt_23 rfl rfl
  · refine sn_iload_n (v := a1) (pc' := 5) dX6_insertedAt_4 rfl rfl rfl ?_
    refine sn_aload_n (v := (some this)) (pc' := 6) dX6_insertedAt_5 rfl rfl rfl ?_
    refine sn_gR (k := 3) (pc' := 9) ci_7 rfl (Or.inl tw189) dX6_insertedAt_6 rfl (fun v1 => ?_)
    refine sn_aN (pc' := 10) dX6_insertedAt_9 rfl (fun v2 => ?_)
    refine sn_ic_lt (pt := 17) (pf := 13) dX6_insertedAt_10 rfl rfl ?_ ?_
    · refine sn_aload_n (v := (some this)) (pc' := 18) dX6_insertedAt_17 rfl rfl rfl ?_
      refine sn_gR (k := 3) (pc' := 21) ci_7 rfl (Or.inl tw189) dX6_insertedAt_18 rfl (fun v3 => ?_)
      refine sn_iload_n (v := a1) (pc' := 22) dX6_insertedAt_21 rfl rfl rfl ?_
      refine sn_aB (pc' := 23) dX6_insertedAt_22 rfl (fun v4 => ?_)
      exact sn_iret dX6_insertedAt_23 rfl rfl
    · refine sn_iconst (v := (0 : Int32)) (pc' := 14) dX6_insertedAt_13 rfl (by decide) ?_
      refine sn_goto (pc' := 23) dX6_insertedAt_14 rfl ?_
      exact sn_iret dX6_insertedAt_23 rfl rfl
theorem c_X6_insertedAt (G : GG) (this : Nat) (a1 : Int32) : Cal G yX6_insertedAt cX6_insertedAt 2 (some FieldType.int) 0 0 (fun v : Int32 => some (.int v)) (X6_insertedAt this a1) [.ref this, .int a1] :=
  Cal.of (by decide) (cat_t (cat_i cat_nil)) rfl (sn_weak (le_s (le_s le_e)) (s_X6_insertedAt G this a1))
theorem cw_X6_insertedAt : CW yX6_insertedAt cX6_insertedAt 2 (some FieldType.int) 1 := ⟨tw578, tw8, by decide, by decide +kernel⟩
